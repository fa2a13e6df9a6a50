theorem fdX6_9 : uFd RX6 9 6 0 0 (some true) .int := ⟨RX6, TX6, 8, tyX6, rfl, by decide, rfl, inG6, tw46, tyX6_ok, nmX6, (fun b h => by cases h; exact ⟨rfl, fun _ => rfl⟩), rfl, by decide⟩
theorem fdX6_15 : uFd RX6 15 6 1 0 (some true) .int := ⟨RX6, TX6, 8, tyX6, rfl, by decide, rfl, inG6, tw49, tyX6_ok, nmX6, (fun b h => by cases h; exact ⟨rfl, fun _ => rfl⟩), rfl, by decide⟩
theorem fdX6_18 : uFd RX6 18 6 2 0 (some true) .int := ⟨RX6, TX6, 8, tyX6, rfl, by decide, rfl, inG6, tw52, tyX6_ok, nmX6, (fun b h => by cases h; exact ⟨rfl, fun _ => rfl⟩), rfl, by decide⟩
theorem fdX6_21 : uFd RX6 21 6 3 0 (some true) .int := ⟨RX6, TX6, 8, tyX6, rfl, by decide, rfl, inG6, tw55, tyX6_ok, nmX6, (fun b h => by cases h; exact ⟨rfl, fun _ => rfl⟩), rfl, by decide⟩
theorem fdX6_24 : uFd RX6 24 6 4 0 (some true) .int := ⟨RX6, TX6, 8, tyX6, rfl, by decide, rfl, inG6, tw61, tyX6_ok, nmX6, (fun b h => by cases h; exact ⟨rfl, fun _ => rfl⟩), rfl, by decide⟩
theorem fdX6_27 : uFd RX6 27 6 5 0 (some true) .int := ⟨RX6, TX6, 8, tyX6, rfl, by decide, rfl, inG6, tw64, tyX6_ok, nmX6, (fun b h => by cases h; exact ⟨rfl, fun _ => rfl⟩), rfl, by decide⟩
theorem fdX6_30 : uFd RX6 30 6 6 0 (some true) .boolean := ⟨RX6, TX6, 8, tyX6, rfl, by decide, rfl, inG6, tw67, tyX6_ok, nmX6, (fun b h => by cases h; exact ⟨rfl, fun _ => rfl⟩), rfl, by decide⟩
theorem gcX6_34 : uGN RX6 34 yX11_cubeHeaders cX11_cubeHeaders 2 5 (some .long) := ⟨gW tw41, ⟨by decide, by decide, by decide⟩, ⟨_, tw39⟩, tw40, tw1⟩
theorem fdX6_38 : uFd RX6 38 6 7 1 (some true) .long := ⟨RX6, TX6, 8, tyX6, rfl, by decide, rfl, inG6, tw70, tyX6_ok, nmX6, (fun b h => by cases h; exact ⟨rfl, fun _ => rfl⟩), rfl, by decide⟩
theorem fdX7_11 : uFd RX7 11 7 0 2 (some true) (tyX7 0) := ⟨RX7, TX7, 2, tyX7, rfl, by decide, rfl, inG7, tw97, tyX7_ok, nmX7, (fun b h => by cases h; exact ⟨rfl, fun _ => rfl⟩), rfl, by decide⟩
theorem fdX4_33 : uFd RX4 33 4 0 0 (some false) .int := ⟨RX4, TX4, 4, tyX4, rfl, by decide, rfl, inG4, tw120, tyX4_ok, nmX4, (fun b h => by cases h; exact ⟨rfl, fun h => by cases h⟩), rfl, by decide⟩
theorem fdX4_37 : uFd RX4 37 4 1 0 (some false) .int := ⟨RX4, TX4, 4, tyX4, rfl, by decide, rfl, inG4, tw122, tyX4_ok, nmX4, (fun b h => by cases h; exact ⟨rfl, fun h => by cases h⟩), rfl, by decide⟩
theorem fdX4_9 : uFd RX4 9 4 2 2 (some true) (tyX4 2) := ⟨RX4, TX4, 4, tyX4, rfl, by decide, rfl, inG4, tw124, tyX4_ok, nmX4, (fun b h => by cases h; exact ⟨rfl, fun _ => rfl⟩), rfl, by decide⟩
theorem gcX4_40 : uGS RX4 40 yJ7_fill_53178 cJ7_fill_53178 2 4 none := ⟨gWS tw117 tw118 tw5 tw119, ⟨by decide, by decide, by decide⟩⟩
theorem fdX4_17 : uFd RX4 17 4 3 2 (some true) (tyX4 3) := ⟨RX4, TX4, 4, tyX4, rfl, by decide, rfl, inG4, tw130, tyX4_ok, nmX4, (fun b h => by cases h; exact ⟨rfl, fun _ => rfl⟩), rfl, by decide⟩
theorem fdX4_46 : uFd RX4 46 7 1 0 (some false) .int := ⟨RX7, TX7, 2, tyX7, rfl, by decide, rfl, inG7, tw104, tyX7_ok, nmX7, (fun b h => by cases h; exact ⟨rfl, fun h => by cases h⟩), rfl, by decide⟩
theorem cdX4_21 : uCd RX4 21 6 8 := ⟨RX6, TX6, tyX6, rfl, inG6, tyX6_ok, by decide, tw33, tw34, tw3, by decide⟩
theorem gcX4_23 : uGI RX4 23 yX6_init cX6_init 7 8 := ⟨gW tw37, ⟨by decide, by decide, by decide⟩, tw35, tw36, tw3, rfl⟩
theorem cdX4_15 : uCd RX4 15 7 2 := ⟨RX7, TX7, tyX7, rfl, inG7, tyX7_ok, by decide, tw31, tw90, tw4, by decide⟩
theorem gcX4_26 : uGI RX4 26 yX7_init cX7_init 1 3 := ⟨gW tw93, ⟨by decide, by decide, by decide⟩, tw91, tw92, tw4, rfl⟩
theorem gcX4_29 : uGV RX4 29 yX4_startAnew cX4_startAnew 1 3 none := ⟨gWV tw113 tw114 tw115 tw2 tw116, ⟨by decide, by decide, by decide⟩⟩
theorem fdX3_11 : uFd RX3 11 3 0 2 (some true) (tyX3 0) := ⟨RX3, TX3, 4, tyX3, rfl, by decide, rfl, inG3, tw156, tyX3_ok, nmX3, (fun b h => by cases h; exact ⟨rfl, fun _ => rfl⟩), rfl, by decide⟩
theorem fdX3_17 : uFd RX3 17 3 1 2 (some true) (tyX3 1) := ⟨RX3, TX3, 4, tyX3, rfl, by decide, rfl, inG3, tw157, tyX3_ok, nmX3, (fun b h => by cases h; exact ⟨rfl, fun _ => rfl⟩), rfl, by decide⟩
theorem cdX3_21 : uCd RX3 21 6 8 := ⟨RX6, TX6, tyX6, rfl, inG6, tyX6_ok, by decide, tw153, tw34, tw3, by decide⟩
theorem gcX3_23 : uGI RX3 23 yX6_init cX6_init 7 8 := ⟨gW tw37, ⟨by decide, by decide, by decide⟩, tw154, tw36, tw3, rfl⟩
theorem cdX3_9 : uCd RX3 9 7 2 := ⟨RX7, TX7, tyX7, rfl, inG7, tyX7_ok, by decide, tw152, tw90, tw4, by decide⟩
theorem gcX3_26 : uGI RX3 26 yX7_init cX7_init 1 3 := ⟨gW tw93, ⟨by decide, by decide, by decide⟩, tw155, tw92, tw4, rfl⟩
theorem fdX2_9 : uFd RX2 9 2 1 2 (some true) (tyX2 1) := ⟨RX2, TX2, 4, tyX2, rfl, by decide, rfl, inG2, tw177, tyX2_ok, nmX2, (fun b h => by cases h; exact ⟨rfl, fun _ => rfl⟩), rfl, by decide⟩
theorem fdX2_15 : uFd RX2 15 2 2 2 (some true) (tyX2 2) := ⟨RX2, TX2, 4, tyX2, rfl, by decide, rfl, inG2, tw179, tyX2_ok, nmX2, (fun b h => by cases h; exact ⟨rfl, fun _ => rfl⟩), rfl, by decide⟩
theorem fdX2_18 : uFd RX2 18 2 3 2 (some true) (tyX2 3) := ⟨RX2, TX2, 4, tyX2, rfl, by decide, rfl, inG2, tw180, tyX2_ok, nmX2, (fun b h => by cases h; exact ⟨rfl, fun _ => rfl⟩), rfl, by decide⟩
theorem fdX2_21 : uFd RX2 21 2 0 2 (some true) (tyX2 0) := ⟨RX2, TX2, 4, tyX2, rfl, by decide, rfl, inG2, tw176, tyX2_ok, nmX2, (fun b h => by cases h; exact ⟨rfl, fun _ => rfl⟩), rfl, by decide⟩
theorem fdX1_9 : uFd RX1 9 1 1 2 (some true) (tyX1 1) := ⟨RX1, TX1, 2, tyX1, rfl, by decide, rfl, inG1, tw198, tyX1_ok, nmX1, (fun b h => by cases h; exact ⟨rfl, fun _ => rfl⟩), rfl, by decide⟩
theorem fdX1_15 : uFd RX1 15 1 0 2 (some true) (tyX1 0) := ⟨RX1, TX1, 2, tyX1, rfl, by decide, rfl, inG1, tw197, tyX1_ok, nmX1, (fun b h => by cases h; exact ⟨rfl, fun _ => rfl⟩), rfl, by decide⟩
theorem fdX10_9 : uFd RX10 9 10 1 2 (some true) (tyX10 1) := ⟨RX10, TX10, 5, tyX10, rfl, by decide, rfl, inG10, tw212, tyX10_ok, nmX10, (fun b h => by cases h; exact ⟨rfl, fun _ => rfl⟩), rfl, by decide⟩
theorem fdX10_15 : uFd RX10 15 10 0 2 (some true) (tyX10 0) := ⟨RX10, TX10, 5, tyX10, rfl, by decide, rfl, inG10, tw211, tyX10_ok, nmX10, (fun b h => by cases h; exact ⟨rfl, fun _ => rfl⟩), rfl, by decide⟩
theorem fdX0_9 : uFd RX0 9 0 1 2 (some true) (tyX0 1) := ⟨RX0, TX0, 11, tyX0, rfl, by decide, rfl, inG0, tw237, tyX0_ok, nmX0, (fun b h => by cases h; exact ⟨rfl, fun _ => rfl⟩), rfl, by decide⟩
theorem fdX0_15 : uFd RX0 15 0 2 2 (some true) (tyX0 2) := ⟨RX0, TX0, 11, tyX0, rfl, by decide, rfl, inG0, tw239, tyX0_ok, nmX0, (fun b h => by cases h; exact ⟨rfl, fun _ => rfl⟩), rfl, by decide⟩
theorem fdX0_19 : uFd RX0 19 0 3 2 (some true) (tyX0 3) := ⟨RX0, TX0, 11, tyX0, rfl, by decide, rfl, inG0, tw240, tyX0_ok, nmX0, (fun b h => by cases h; exact ⟨rfl, fun _ => rfl⟩), rfl, by decide⟩
theorem fdX0_22 : uFd RX0 22 0 4 2 (some true) (tyX0 4) := ⟨RX0, TX0, 11, tyX0, rfl, by decide, rfl, inG0, tw241, tyX0_ok, nmX0, (fun b h => by cases h; exact ⟨rfl, fun _ => rfl⟩), rfl, by decide⟩
theorem fdX0_25 : uFd RX0 25 0 5 2 (some true) (tyX0 5) := ⟨RX0, TX0, 11, tyX0, rfl, by decide, rfl, inG0, tw242, tyX0_ok, nmX0, (fun b h => by cases h; exact ⟨rfl, fun _ => rfl⟩), rfl, by decide⟩
theorem fdX0_28 : uFd RX0 28 0 6 2 (some true) (tyX0 6) := ⟨RX0, TX0, 11, tyX0, rfl, by decide, rfl, inG0, tw243, tyX0_ok, nmX0, (fun b h => by cases h; exact ⟨rfl, fun _ => rfl⟩), rfl, by decide⟩
theorem fdX0_31 : uFd RX0 31 0 0 2 (some true) (tyX0 0) := ⟨RX0, TX0, 11, tyX0, rfl, by decide, rfl, inG0, tw236, tyX0_ok, nmX0, (fun b h => by cases h; exact ⟨rfl, fun _ => rfl⟩), rfl, by decide⟩
theorem fdX9_9 : uFd RX9 9 9 0 2 (some true) (tyX9 0) := ⟨RX9, TX9, 9, tyX9, rfl, by decide, rfl, inG9, tw277, tyX9_ok, nmX9, (fun b h => by cases h; exact ⟨rfl, fun _ => rfl⟩), rfl, by decide⟩
theorem fdX8_9 : uFd RX8 9 8 0 2 (some true) (tyX8 0) := ⟨RX8, TX8, 2, tyX8, rfl, by decide, rfl, inG8, tw315, tyX8_ok, nmX8, (fun b h => by cases h; exact ⟨rfl, fun _ => rfl⟩), rfl, by decide⟩
theorem cdX11_11 : uCd RX11 11 4 4 := ⟨RX4, TX4, tyX4, rfl, inG4, tyX4_ok, by decide, tw25, tw26, tw2, by decide⟩
theorem gcX11_13 : uGI RX11 13 yX4_init cX4_init 0 3 := ⟨gW tw29, ⟨by decide, by decide, by decide⟩, tw27, tw28, tw2, rfl⟩
theorem fdX11_14 : uFd RX11 14 11 0 2 (some true) (tyX11 0) := ⟨RX11, TX11, 12, tyX11, rfl, by decide, rfl, inG11, tw348, tyX11_ok, nmX11, (fun b h => by cases h; exact ⟨rfl, fun _ => rfl⟩), rfl, by decide⟩
theorem cdX11_18 : uCd RX11 18 3 4 := ⟨RX3, TX3, tyX3, rfl, inG3, tyX3_ok, by decide, tw146, tw147, tw6, by decide⟩
theorem gcX11_20 : uGI RX11 20 yX3_init cX3_init 0 3 := ⟨gW tw150, ⟨by decide, by decide, by decide⟩, tw148, tw149, tw6, rfl⟩
theorem fdX11_21 : uFd RX11 21 11 1 2 (some true) (tyX11 1) := ⟨RX11, TX11, 12, tyX11, rfl, by decide, rfl, inG11, tw349, tyX11_ok, nmX11, (fun b h => by cases h; exact ⟨rfl, fun _ => rfl⟩), rfl, by decide⟩
theorem cdX11_25 : uCd RX11 25 2 4 := ⟨RX2, TX2, tyX2, rfl, inG2, tyX2_ok, by decide, tw170, tw171, tw7, by decide⟩
theorem gcX11_27 : uGI RX11 27 yX2_init cX2_init 1 2 := ⟨gW tw174, ⟨by decide, by decide, by decide⟩, tw172, tw173, tw7, rfl⟩
theorem fdX11_30 : uFd RX11 30 11 2 2 (some true) (tyX11 2) := ⟨RX11, TX11, 12, tyX11, rfl, by decide, rfl, inG11, tw350, tyX11_ok, nmX11, (fun b h => by cases h; exact ⟨rfl, fun _ => rfl⟩), rfl, by decide⟩
theorem cdX11_34 : uCd RX11 34 1 2 := ⟨RX1, TX1, tyX1, rfl, inG1, tyX1_ok, by decide, tw191, tw192, tw8, by decide⟩
theorem gcX11_36 : uGI RX11 36 yX1_init cX1_init 1 2 := ⟨gW tw195, ⟨by decide, by decide, by decide⟩, tw193, tw194, tw8, rfl⟩
theorem fdX11_37 : uFd RX11 37 11 3 2 (some true) (tyX11 3) := ⟨RX11, TX11, 12, tyX11, rfl, by decide, rfl, inG11, tw351, tyX11_ok, nmX11, (fun b h => by cases h; exact ⟨rfl, fun _ => rfl⟩), rfl, by decide⟩
theorem cdX11_41 : uCd RX11 41 10 5 := ⟨RX10, TX10, tyX10, rfl, inG10, tyX10_ok, by decide, tw205, tw206, tw9, by decide⟩
theorem gcX11_43 : uGI RX11 43 yX10_init cX10_init 1 2 := ⟨gW tw209, ⟨by decide, by decide, by decide⟩, tw207, tw208, tw9, rfl⟩
theorem fdX11_44 : uFd RX11 44 11 4 2 (some true) (tyX11 4) := ⟨RX11, TX11, 12, tyX11, rfl, by decide, rfl, inG11, tw352, tyX11_ok, nmX11, (fun b h => by cases h; exact ⟨rfl, fun _ => rfl⟩), rfl, by decide⟩
theorem cdX11_48 : uCd RX11 48 0 11 := ⟨RX0, TX0, tyX0, rfl, inG0, tyX0_ok, by decide, tw230, tw231, tw10, by decide⟩
theorem gcX11_50 : uGI RX11 50 yX0_init cX0_init 1 2 := ⟨gW tw234, ⟨by decide, by decide, by decide⟩, tw232, tw233, tw10, rfl⟩
theorem fdX11_51 : uFd RX11 51 11 5 2 (some true) (tyX11 5) := ⟨RX11, TX11, 12, tyX11, rfl, by decide, rfl, inG11, tw353, tyX11_ok, nmX11, (fun b h => by cases h; exact ⟨rfl, fun _ => rfl⟩), rfl, by decide⟩
theorem cdX11_55 : uCd RX11 55 9 9 := ⟨RX9, TX9, tyX9, rfl, inG9, tyX9_ok, by decide, tw271, tw272, tw11, by decide⟩
theorem gcX11_57 : uGJ RX11 57 yX9_init cX9_init 0 1 := ⟨gW tw275, ⟨by decide, by decide, by decide⟩, ⟨_, tw273⟩, tw274, tw11, rfl⟩
theorem fdX11_58 : uFd RX11 58 11 6 2 (some true) (tyX11 6) := ⟨RX11, TX11, 12, tyX11, rfl, by decide, rfl, inG11, tw354, tyX11_ok, nmX11, (fun b h => by cases h; exact ⟨rfl, fun _ => rfl⟩), rfl, by decide⟩
theorem cdX11_62 : uCd RX11 62 8 2 := ⟨RX8, TX8, tyX8, rfl, inG8, tyX8_ok, by decide, tw309, tw310, tw12, by decide⟩
theorem gcX11_64 : uGJ RX11 64 yX8_init cX8_init 0 1 := ⟨gW tw313, ⟨by decide, by decide, by decide⟩, ⟨_, tw311⟩, tw312, tw12, rfl⟩
theorem fdX11_65 : uFd RX11 65 11 7 2 (some true) (tyX11 7) := ⟨RX11, TX11, 12, tyX11, rfl, by decide, rfl, inG11, tw355, tyX11_ok, nmX11, (fun b h => by cases h; exact ⟨rfl, fun _ => rfl⟩), rfl, by decide⟩
theorem fdX11_71 : uFd RX11 71 11 8 2 (some true) (tyX11 8) := ⟨RX11, TX11, 12, tyX11, rfl, by decide, rfl, inG11, tw356, tyX11_ok, nmX11, (fun b h => by cases h; exact ⟨rfl, fun _ => rfl⟩), rfl, by decide⟩
theorem cdX11_69 : uCd RX11 69 5 4 := ⟨RX5, TX5, tyX5, rfl, inG5, tyX5_ok, by decide, tw324, tw326, tw13, by decide⟩
theorem gcX11_75 : uGJ RX11 75 yX5_init cX5_init 0 1 := ⟨gW tw329, ⟨by decide, by decide, by decide⟩, ⟨_, tw327⟩, tw328, tw13, rfl⟩
theorem gcX11_76 : uGV RX11 76 yX4_allHeaders cX4_allHeaders 0 1 (some .long) := ⟨gWV tw344 tw345 tw346 tw2 tw347, ⟨by decide, by decide, by decide⟩⟩
theorem fdX11_80 : uFd RX11 80 11 11 1 (some false) .long := ⟨RX11, TX11, 12, tyX11, rfl, by decide, rfl, inG11, tw359, tyX11_ok, nmX11, (fun b h => by cases h; exact ⟨rfl, fun h => by cases h⟩), rfl, by decide⟩
theorem fdX11_84 : uFd RX11 84 4 0 0 (some false) .int := ⟨RX4, TX4, 4, tyX4, rfl, by decide, rfl, inG4, tw121, tyX4_ok, nmX4, (fun b h => by cases h; exact ⟨rfl, fun h => by cases h⟩), rfl, by decide⟩
theorem gcX11_88 : uGV RX11 88 yX4_startAnew cX4_startAnew 1 3 none := ⟨gWV tw389 tw114 tw115 tw2 tw116, ⟨by decide, by decide, by decide⟩⟩
theorem fdX11_92 : uFd RX11 92 3 2 0 (some false) .int := ⟨RX3, TX3, 4, tyX3, rfl, by decide, rfl, inG3, tw158, tyX3_ok, nmX3, (fun b h => by cases h; exact ⟨rfl, fun h => by cases h⟩), rfl, by decide⟩
theorem fdX11_95 : uFd RX11 95 11 9 0 (some false) .int := ⟨RX11, TX11, 12, tyX11, rfl, by decide, rfl, inG11, tw357, tyX11_ok, nmX11, (fun b h => by cases h; exact ⟨rfl, fun h => by cases h⟩), rfl, by decide⟩
theorem fdX11_98 : uFd RX11 98 11 10 0 (some false) .int := ⟨RX11, TX11, 12, tyX11, rfl, by decide, rfl, inG11, tw358, tyX11_ok, nmX11, (fun b h => by cases h; exact ⟨rfl, fun h => by cases h⟩), rfl, by decide⟩
theorem gcX11_116 : uGS RX11 116 yX11_isBox cX11_isBox 1 1 (some .boolean) := ⟨gWS tw397 tw398 tw1 tw399, ⟨by decide, by decide, by decide⟩⟩
theorem gcX11_101 : uGS RX11 101 yX11_isPlace cX11_isPlace 2 2 (some .boolean) := ⟨gWS tw394 tw395 tw1 tw396, ⟨by decide, by decide, by decide⟩⟩
theorem gcX11_105 : uGS RX11 105 yX11_placeOf cX11_placeOf 2 2 (some .int) := ⟨gWS tw400 tw401 tw1 tw402, ⟨by decide, by decide, by decide⟩⟩
theorem fdX11_109 : uFd RX11 109 4 2 2 none (tyX4 2) := ⟨RX4, TX4, 4, tyX4, rfl, by decide, rfl, inG4, tw125, tyX4_ok, nmX4, (fun b h => by cases h), rfl, by decide⟩
theorem fdX11_113 : uFd RX11 113 4 1 0 (some false) .int := ⟨RX4, TX4, 4, tyX4, rfl, by decide, rfl, inG4, tw123, tyX4_ok, nmX4, (fun b h => by cases h; exact ⟨rfl, fun h => by cases h⟩), rfl, by decide⟩
theorem gcX4_49 : uGV RX4 49 yX4_isHeader cX4_isHeader 1 2 (some .boolean) := ⟨gWV tw426 tw427 tw428 tw2 tw429, ⟨by decide, by decide, by decide⟩⟩
theorem fdX11_142 : uFd RX11 142 4 3 2 none (tyX4 3) := ⟨RX4, TX4, 4, tyX4, rfl, by decide, rfl, inG4, tw135, tyX4_ok, nmX4, (fun b h => by cases h), rfl, by decide⟩
theorem fdX11_176 : uFd RX11 176 7 1 0 (some false) .int := ⟨RX7, TX7, 2, tyX7, rfl, by decide, rfl, inG7, tw107, tyX7_ok, nmX7, (fun b h => by cases h; exact ⟨rfl, fun h => by cases h⟩), rfl, by decide⟩
theorem gcX11_133 : uGS RX11 133 yX11_isPortSet cX11_isPortSet 1 1 (some .boolean) := ⟨gWS tw419 tw420 tw1 tw421, ⟨by decide, by decide, by decide⟩⟩
theorem gcX11_139 : uGV RX11 139 yX4_isCube cX4_isCube 2 3 (some .boolean) := ⟨gWV tw422 tw423 tw424 tw2 tw425, ⟨by decide, by decide, by decide⟩⟩
theorem fdX7_17 : uFd RX7 17 7 1 0 (some false) .int := ⟨RX7, TX7, 2, tyX7, rfl, by decide, rfl, inG7, tw103, tyX7_ok, nmX7, (fun b h => by cases h; exact ⟨rfl, fun h => by cases h⟩), rfl, by decide⟩
theorem fdX3_29 : uFd RX3 29 3 3 0 (some false) .int := ⟨RX3, TX3, 4, tyX3, rfl, by decide, rfl, inG3, tw160, tyX3_ok, nmX3, (fun b h => by cases h; exact ⟨rfl, fun h => by cases h⟩), rfl, by decide⟩
theorem gcX3_33 : uGV RX3 33 yX7_copyFrom cX7_copyFrom 1 3 none := ⟨gWV tw440 tw441 tw442 tw4 tw443, ⟨by decide, by decide, by decide⟩⟩
theorem fdX3_37 : uFd RX3 37 3 2 0 (some false) .int := ⟨RX3, TX3, 4, tyX3, rfl, by decide, rfl, inG3, tw159, tyX3_ok, nmX3, (fun b h => by cases h; exact ⟨rfl, fun h => by cases h⟩), rfl, by decide⟩
theorem gcX11_169 : uGV RX11 169 yX3_keep cX3_keep 2 3 none := ⟨gWV tw436 tw437 tw438 tw6 tw439, ⟨by decide, by decide, by decide⟩⟩
theorem gcX11_177 : uGV RX11 177 yX7_insertAt cX7_insertAt 2 4 none := ⟨gWV tw447 tw448 tw449 tw4 tw450, ⟨by decide, by decide, by decide⟩⟩
theorem gcX11_120 : uGV RX11 120 yX11_isInsertable cX11_isInsertable 5 6 (some .boolean) := ⟨gWV tw415 tw417 ts1_0 tw1 tw418, ⟨by decide, by decide, by decide⟩⟩
theorem cdX11_124 : uCd RX11 124 6 8 := ⟨RX6, TX6, tyX6, rfl, inG6, tyX6_ok, by decide, tw430, tw34, tw3, by decide⟩
theorem gcX11_126 : uGI RX11 126 yX6_init cX6_init 7 8 := ⟨gW tw37, ⟨by decide, by decide, by decide⟩, tw431, tw36, tw3, rfl⟩
theorem gcX11_129 : uGV RX11 129 yX11_insertRule cX11_insertRule 3 5 (some .int) := ⟨gWV tw432 tw434 ts1_1 tw1 tw435, ⟨by decide, by decide, by decide⟩⟩
theorem cdX6_10 : uCd RX6 10 6 8 := ⟨RX6, TX6, tyX6, rfl, inG6, tyX6_ok, by decide, tw468, tw34, tw3, by decide⟩
theorem gcX6_42 : uGI RX6 42 yX6_init cX6_init 7 8 := ⟨gW tw37, ⟨by decide, by decide, by decide⟩, tw469, tw36, tw3, rfl⟩
theorem fdX11_146 : uFd RX11 146 7 0 2 none (tyX7 0) := ⟨RX7, TX7, 2, tyX7, rfl, by decide, rfl, inG7, tw101, tyX7_ok, nmX7, (fun b h => by cases h), rfl, by decide⟩
theorem gcX11_136 : uGV RX11 136 yX11_ruleError cX11_ruleError 2 3 (some .int) := ⟨gWV tw460 tw462 ts1_2 tw1 tw463, ⟨by decide, by decide, by decide⟩⟩
theorem fdX11_152 : uFd RX11 152 6 3 0 none .int := ⟨RX6, TX6, 8, tyX6, rfl, by decide, rfl, inG6, tw59, tyX6_ok, nmX6, (fun b h => by cases h), rfl, by decide⟩
theorem gcX11_155 : uGV RX11 155 yX6_withRewriting cX6_withRewriting 2 3 (some (.object RX6)) := ⟨gWV tw464 tw465 tw466 tw3 tw467, ⟨by decide, by decide, by decide⟩⟩
theorem gcX11_159 : uGV RX11 159 yX11_replaceRule cX11_replaceRule 3 5 none := ⟨gWV tw470 tw472 ts1_3 tw1 tw473, ⟨by decide, by decide, by decide⟩⟩
theorem fdX11_163 : uFd RX11 163 6 4 0 none .int := ⟨RX6, TX6, 8, tyX6, rfl, by decide, rfl, inG6, tw63, tyX6_ok, nmX6, (fun b h => by cases h), rfl, by decide⟩
theorem fdX11_166 : uFd RX11 166 6 5 0 none .int := ⟨RX6, TX6, 8, tyX6, rfl, by decide, rfl, inG6, tw66, tyX6_ok, nmX6, (fun b h => by cases h), rfl, by decide⟩
theorem gcX11_173 : uGV RX11 173 yX7_removeAt cX7_removeAt 1 3 none := ⟨gWV tw478 tw479 tw480 tw4 tw481, ⟨by decide, by decide, by decide⟩⟩
theorem gcX11_181 : uGV RX11 181 yX6_switched cX6_switched 1 2 (some (.object RX6)) := ⟨gWV tw490 tw491 tw492 tw3 tw493, ⟨by decide, by decide, by decide⟩⟩
theorem fdX11_185 : uFd RX11 185 6 6 0 none .boolean := ⟨RX6, TX6, 8, tyX6, rfl, by decide, rfl, inG6, tw69, tyX6_ok, nmX6, (fun b h => by cases h), rfl, by decide⟩
theorem fdX3_46 : uFd RX3 46 4 3 2 none (tyX4 3) := ⟨RX4, TX4, 4, tyX4, rfl, by decide, rfl, inG4, tw132, tyX4_ok, nmX4, (fun b h => by cases h), rfl, by decide⟩
theorem gcX11_189 : uGV RX11 189 yX3_takeBack cX3_takeBack 1 2 none := ⟨gWV tw498 tw499 tw500 tw6 tw501, ⟨by decide, by decide, by decide⟩⟩
theorem fdX11_192 : uFd RX11 192 6 0 0 none .int := ⟨RX6, TX6, 8, tyX6, rfl, by decide, rfl, inG6, tw48, tyX6_ok, nmX6, (fun b h => by cases h), rfl, by decide⟩
theorem fdX11_195 : uFd RX11 195 6 1 0 none .int := ⟨RX6, TX6, 8, tyX6, rfl, by decide, rfl, inG6, tw51, tyX6_ok, nmX6, (fun b h => by cases h), rfl, by decide⟩
theorem fdX11_198 : uFd RX11 198 6 2 0 none .int := ⟨RX6, TX6, 8, tyX6, rfl, by decide, rfl, inG6, tw54, tyX6_ok, nmX6, (fun b h => by cases h), rfl, by decide⟩
theorem gcX11_201 : uGV RX11 201 yX4_countRules cX4_countRules 0 3 (some .int) := ⟨gWV tw510 tw511 tw512 tw2 tw513, ⟨by decide, by decide, by decide⟩⟩
theorem gcX7_27 : uGV RX7 27 yX6_taken cX6_taken 2 4 (some .long) := ⟨gWV tw534 tw535 tw536 tw3 tw537, ⟨by decide, by decide, by decide⟩⟩
theorem gcX7_33 : uGV RX7 33 yX7_leftFor cX7_leftFor 3 8 (some .long) := ⟨gWV tw530 tw531 tw532 tw4 tw533, ⟨by decide, by decide, by decide⟩⟩
theorem fdX7_45 : uFd RX7 45 6 7 1 none .long := ⟨RX6, TX6, 8, tyX6, rfl, by decide, rfl, inG6, tw71, tyX6_ok, nmX6, (fun b h => by cases h), rfl, by decide⟩
theorem gcX7_49 : uGV RX7 49 yX7_handled cX7_handled 3 5 (some .long) := ⟨gWV tw526 tw527 tw528 tw4 tw529, ⟨by decide, by decide, by decide⟩⟩
theorem fdX7_37 : uFd RX7 37 6 6 0 none .boolean := ⟨RX6, TX6, 8, tyX6, rfl, by decide, rfl, inG6, tw68, tyX6_ok, nmX6, (fun b h => by cases h), rfl, by decide⟩
theorem gcX7_41 : uGV RX7 41 yX7_isHidden cX7_isHidden 1 3 (some .boolean) := ⟨gWV tw522 tw524 ts1_4 tw4 tw525, ⟨by decide, by decide, by decide⟩⟩
theorem gcX11_205 : uGV RX11 205 yX7_hiddenRules cX7_hiddenRules 0 3 (some .int) := ⟨gWV tw518 tw519 tw520 tw4 tw521, ⟨by decide, by decide, by decide⟩⟩
theorem gcX11_208 : uGS RX11 208 yX11_cubeHeaders cX11_cubeHeaders 2 5 (some .long) := ⟨gWS tw543 tw40 tw1 tw41, ⟨by decide, by decide, by decide⟩⟩
theorem gcX11_212 : uGS RX11 212 yJ13_bitCount_95d88 cJ13_bitCount_95d88 1 2 (some .int) := ⟨gWS tw544 tw545 tw16 tw546, ⟨by decide, by decide, by decide⟩⟩
theorem gcX2_100 : uGS RX2 100 yJ7_fill_d0a16 cJ7_fill_d0a16 2 5 none := ⟨gWS tw563 tw564 tw5 tw565, ⟨by decide, by decide, by decide⟩⟩
theorem fdX2_84 : uFd RX2 84 4 2 2 none (tyX4 2) := ⟨RX4, TX4, 4, tyX4, rfl, by decide, rfl, inG4, tw128, tyX4_ok, nmX4, (fun b h => by cases h), rfl, by decide⟩
theorem gcX2_43 : uGN RX2 43 yX11_placeOf cX11_placeOf 2 2 (some .int) := ⟨gW tw402, ⟨by decide, by decide, by decide⟩, ⟨_, tw594⟩, tw401, tw1⟩
theorem gcX2_88 : uGN RX2 88 yX11_hasPort cX11_hasPort 2 2 (some .boolean) := ⟨gW tw597, ⟨by decide, by decide, by decide⟩, ⟨_, tw595⟩, tw596, tw1⟩
theorem fdX2_53 : uFd RX2 53 4 3 2 none (tyX4 3) := ⟨RX4, TX4, 4, tyX4, rfl, by decide, rfl, inG4, tw134, tyX4_ok, nmX4, (fun b h => by cases h), rfl, by decide⟩
theorem fdX2_59 : uFd RX2 59 7 1 0 (some false) .int := ⟨RX7, TX7, 2, tyX7, rfl, by decide, rfl, inG7, tw106, tyX7_ok, nmX7, (fun b h => by cases h; exact ⟨rfl, fun h => by cases h⟩), rfl, by decide⟩
theorem fdX2_69 : uFd RX2 69 7 0 2 none (tyX7 0) := ⟨RX7, TX7, 2, tyX7, rfl, by decide, rfl, inG7, tw100, tyX7_ok, nmX7, (fun b h => by cases h), rfl, by decide⟩
theorem gcX2_111 : uGV RX2 111 yX6_taken cX6_taken 2 4 (some .long) := ⟨gWV tw583 tw535 tw536 tw3 tw537, ⟨by decide, by decide, by decide⟩⟩
theorem fdX2_73 : uFd RX2 73 6 3 0 none .int := ⟨RX6, TX6, 8, tyX6, rfl, by decide, rfl, inG6, tw58, tyX6_ok, nmX6, (fun b h => by cases h), rfl, by decide⟩
theorem gcX2_96 : uGV RX2 96 yX6_rewrittenSet cX6_rewrittenSet 1 11 (some .long) := ⟨gWV tw584 tw585 tw586 tw3 tw587, ⟨by decide, by decide, by decide⟩⟩
theorem gcX2_115 : uGV RX2 115 yX2_sendOut cX2_sendOut 3 7 none := ⟨gWV tw590 tw592 ts1_10 tw7 tw593, ⟨by decide, by decide, by decide⟩⟩
theorem gcX2_108 : uGV RX2 108 yX2_handle cX2_handle 2 12 none := ⟨gWV tw579 tw581 ts1_9 tw7 tw582, ⟨by decide, by decide, by decide⟩⟩
theorem gcX2_39 : uGV RX2 39 yX2_goOneLink cX2_goOneLink 0 3 (some .boolean) := ⟨gWV tw575 tw577 ts1_8 tw7 tw578, ⟨by decide, by decide, by decide⟩⟩
theorem gcX2_25 : uGV RX2 25 yX2_forget cX2_forget 0 1 none := ⟨gWV tw559 tw561 ts1_5 tw7 tw562, ⟨by decide, by decide, by decide⟩⟩
theorem gcX2_28 : uGV RX2 28 yX2_enter cX2_enter 2 4 none := ⟨gWV tw566 tw568 ts1_6 tw7 tw569, ⟨by decide, by decide, by decide⟩⟩
theorem gcX2_32 : uGV RX2 32 yX2_spread cX2_spread 0 3 none := ⟨gWV tw571 tw573 ts1_7 tw7 tw574, ⟨by decide, by decide, by decide⟩⟩
theorem gcX11_218 : uGV RX11 218 yX2_spreadFrom cX2_spreadFrom 2 4 none := ⟨gWV tw555 tw556 tw557 tw7 tw558, ⟨by decide, by decide, by decide⟩⟩
theorem fdX11_222 : uFd RX11 222 2 1 2 none (tyX2 1) := ⟨RX2, TX2, 4, tyX2, rfl, by decide, rfl, inG2, tw178, tyX2_ok, nmX2, (fun b h => by cases h), rfl, by decide⟩
theorem gcX2_81 : uGV RX2 81 yX7_handled cX7_handled 3 5 (some .long) := ⟨gWV tw610 tw527 tw528 tw4 tw529, ⟨by decide, by decide, by decide⟩⟩
theorem gcX2_92 : uGV RX2 92 yX2_allHandled cX2_allHandled 2 7 (some .long) := ⟨gWV tw606 tw608 ts1_11 tw7 tw609, ⟨by decide, by decide, by decide⟩⟩
theorem gcX11_226 : uGV RX11 226 yX2_deliveredAt cX2_deliveredAt 2 8 (some .long) := ⟨gWV tw602 tw603 tw604 tw7 tw605, ⟨by decide, by decide, by decide⟩⟩
theorem gcX2_47 : uGS RX2 47 yJ13_bitCount_95d88 cJ13_bitCount_95d88 1 2 (some .int) := ⟨gWS tw619 tw545 tw16 tw546, ⟨by decide, by decide, by decide⟩⟩
theorem gcX2_78 : uGV RX2 78 yX2_countHandled cX2_countHandled 2 6 (some .int) := ⟨gWV tw624 tw625 tw626 tw7 tw627, ⟨by decide, by decide, by decide⟩⟩
theorem gcX2_65 : uGV RX2 65 yX7_leftFor cX7_leftFor 3 8 (some .long) := ⟨gWV tw632 tw531 tw532 tw4 tw533, ⟨by decide, by decide, by decide⟩⟩
theorem gcX11_236 : uGV RX11 236 yX2_countLost cX2_countLost 1 5 (some .int) := ⟨gWV tw628 tw629 tw630 tw7 tw631, ⟨by decide, by decide, by decide⟩⟩
theorem gcX11_229 : uGV RX11 229 yX2_countArrived cX2_countArrived 1 4 (some .int) := ⟨gWV tw615 tw616 tw617 tw7 tw618, ⟨by decide, by decide, by decide⟩⟩
theorem gcX11_233 : uGV RX11 233 yX2_countDropped cX2_countDropped 1 5 (some .int) := ⟨gWV tw620 tw621 tw622 tw7 tw623, ⟨by decide, by decide, by decide⟩⟩
theorem gcX11_239 : uGV RX11 239 yX2_countHandled cX2_countHandled 2 6 (some .int) := ⟨gWV tw637 tw625 tw626 tw7 tw627, ⟨by decide, by decide, by decide⟩⟩
theorem gcX11_242 : uGS RX11 242 yX11_hasHeader cX11_hasHeader 2 3 (some .boolean) := ⟨gWS tw642 tw643 tw1 tw644, ⟨by decide, by decide, by decide⟩⟩
theorem gcX11_246 : uGV RX11 246 yX11_widestCare cX11_widestCare 2 9 (some .int) := ⟨gWV tw645 tw647 ts1_12 tw1 tw648, ⟨by decide, by decide, by decide⟩⟩
theorem gcX2_35 : uGN RX2 35 yX11_hasHeader cX11_hasHeader 2 3 (some .boolean) := ⟨gW tw644, ⟨by decide, by decide, by decide⟩, ⟨_, tw658⟩, tw643, tw1⟩
theorem gcX11_252 : uGV RX11 252 yX4_isHeader cX4_isHeader 1 2 (some .boolean) := ⟨gWV tw653 tw427 tw428 tw2 tw429, ⟨by decide, by decide, by decide⟩⟩
theorem gcX11_255 : uGV RX11 255 yX2_leastOrigin cX2_leastOrigin 4 7 (some .int) := ⟨gWV tw654 tw655 tw656 tw7 tw657, ⟨by decide, by decide, by decide⟩⟩
theorem gcX11_259 : uGV RX11 259 yX11_isInjected cX11_isInjected 1 2 (some .boolean) := ⟨gWV tw663 tw665 ts1_13 tw1 tw666, ⟨by decide, by decide, by decide⟩⟩
theorem gcX11_262 : uGV RX11 262 yX2_leastLinks cX2_leastLinks 3 5 (some .int) := ⟨gWV tw667 tw668 tw669 tw7 tw670, ⟨by decide, by decide, by decide⟩⟩
theorem gcX6_51 : uGN RX6 51 yX11_hasPort cX11_hasPort 2 2 (some .boolean) := ⟨gW tw597, ⟨by decide, by decide, by decide⟩, ⟨_, tw693⟩, tw596, tw1⟩
theorem fdX10_25 : uFd RX10 25 10 2 0 (some false) .int := ⟨RX10, TX10, 5, tyX10, rfl, by decide, rfl, inG10, tw213, tyX10_ok, nmX10, (fun b h => by cases h; exact ⟨rfl, fun h => by cases h⟩), rfl, by decide⟩
theorem fdX10_38 : uFd RX10 38 4 3 2 none (tyX4 3) := ⟨RX4, TX4, 4, tyX4, rfl, by decide, rfl, inG4, tw131, tyX4_ok, nmX4, (fun b h => by cases h), rfl, by decide⟩
theorem fdX10_29 : uFd RX10 29 10 3 0 (some false) .int := ⟨RX10, TX10, 5, tyX10, rfl, by decide, rfl, inG10, tw215, tyX10_ok, nmX10, (fun b h => by cases h; exact ⟨rfl, fun h => by cases h⟩), rfl, by decide⟩
theorem gcX10_44 : uGV RX10 44 yX7_handler cX7_handler 3 7 (some .int) := ⟨gWV tw685 tw686 tw687 tw4 tw688, ⟨by decide, by decide, by decide⟩⟩
theorem fdX10_50 : uFd RX10 50 7 0 2 none (tyX7 0) := ⟨RX7, TX7, 2, tyX7, rfl, by decide, rfl, inG7, tw98, tyX7_ok, nmX7, (fun b h => by cases h), rfl, by decide⟩
theorem gcX10_54 : uGV RX10 54 yX6_lowestOutput cX6_lowestOutput 0 2 (some .int) := ⟨gWV tw689 tw690 tw691 tw3 tw692, ⟨by decide, by decide, by decide⟩⟩
theorem fdX10_60 : uFd RX10 60 4 2 2 none (tyX4 2) := ⟨RX4, TX4, 4, tyX4, rfl, by decide, rfl, inG4, tw126, tyX4_ok, nmX4, (fun b h => by cases h), rfl, by decide⟩
theorem gcX10_64 : uGN RX10 64 yX11_placeOf cX11_placeOf 2 2 (some .int) := ⟨gW tw402, ⟨by decide, by decide, by decide⟩, ⟨_, tw694⟩, tw401, tw1⟩
theorem gcX10_68 : uGV RX10 68 yX6_rewritten cX6_rewritten 1 2 (some .int) := ⟨gWV tw695 tw696 tw697 tw3 tw698, ⟨by decide, by decide, by decide⟩⟩
theorem gcX10_72 : uGN RX10 72 yX11_hasHeader cX11_hasHeader 2 3 (some .boolean) := ⟨gW tw644, ⟨by decide, by decide, by decide⟩, ⟨_, tw699⟩, tw643, tw1⟩
theorem fdX10_32 : uFd RX10 32 10 4 0 (some false) .int := ⟨RX10, TX10, 5, tyX10, rfl, by decide, rfl, inG10, tw217, tyX10_ok, nmX10, (fun b h => by cases h; exact ⟨rfl, fun h => by cases h⟩), rfl, by decide⟩
theorem gcX10_19 : uGS RX10 19 yJ7_fill_d0a16 cJ7_fill_d0a16 2 5 none := ⟨gWS tw680 tw564 tw5 tw565, ⟨by decide, by decide, by decide⟩⟩
theorem gcX10_35 : uGV RX10 35 yX10_goOnce cX10_goOnce 0 7 none := ⟨gWV tw681 tw683 ts1_14 tw9 tw684, ⟨by decide, by decide, by decide⟩⟩
theorem gcX11_271 : uGV RX11 271 yX10_go cX10_go 3 5 (some .int) := ⟨gWV tw676 tw677 tw678 tw9 tw679, ⟨by decide, by decide, by decide⟩⟩
theorem fdX11_274 : uFd RX11 274 10 2 0 (some false) .int := ⟨RX10, TX10, 5, tyX10, rfl, by decide, rfl, inG10, tw214, tyX10_ok, nmX10, (fun b h => by cases h; exact ⟨rfl, fun h => by cases h⟩), rfl, by decide⟩
theorem fdX11_277 : uFd RX11 277 10 3 0 (some false) .int := ⟨RX10, TX10, 5, tyX10, rfl, by decide, rfl, inG10, tw216, tyX10_ok, nmX10, (fun b h => by cases h; exact ⟨rfl, fun h => by cases h⟩), rfl, by decide⟩
theorem fdX11_280 : uFd RX11 280 10 4 0 (some false) .int := ⟨RX10, TX10, 5, tyX10, rfl, by decide, rfl, inG10, tw218, tyX10_ok, nmX10, (fun b h => by cases h; exact ⟨rfl, fun h => by cases h⟩), rfl, by decide⟩
theorem gcX1_43 : uGV RX1 43 yX4_allHeaders cX4_allHeaders 0 1 (some .long) := ⟨gWV tw721 tw345 tw346 tw2 tw347, ⟨by decide, by decide, by decide⟩⟩
theorem fdX1_75 : uFd RX1 75 4 2 2 none (tyX4 2) := ⟨RX4, TX4, 4, tyX4, rfl, by decide, rfl, inG4, tw127, tyX4_ok, nmX4, (fun b h => by cases h), rfl, by decide⟩
theorem gcX1_79 : uGN RX1 79 yX11_placeOf cX11_placeOf 2 2 (some .int) := ⟨gW tw402, ⟨by decide, by decide, by decide⟩, ⟨_, tw728⟩, tw401, tw1⟩
theorem gcX1_83 : uGN RX1 83 yX11_hasPort cX11_hasPort 2 2 (some .boolean) := ⟨gW tw597, ⟨by decide, by decide, by decide⟩, ⟨_, tw729⟩, tw596, tw1⟩
theorem fdX1_37 : uFd RX1 37 4 3 2 none (tyX4 3) := ⟨RX4, TX4, 4, tyX4, rfl, by decide, rfl, inG4, tw133, tyX4_ok, nmX4, (fun b h => by cases h), rfl, by decide⟩
theorem fdX1_47 : uFd RX1 47 7 1 0 (some false) .int := ⟨RX7, TX7, 2, tyX7, rfl, by decide, rfl, inG7, tw105, tyX7_ok, nmX7, (fun b h => by cases h; exact ⟨rfl, fun h => by cases h⟩), rfl, by decide⟩
theorem fdX1_53 : uFd RX1 53 7 0 2 none (tyX7 0) := ⟨RX7, TX7, 2, tyX7, rfl, by decide, rfl, inG7, tw99, tyX7_ok, nmX7, (fun b h => by cases h), rfl, by decide⟩
theorem gcX1_57 : uGV RX1 57 yX6_taken cX6_taken 2 4 (some .long) := ⟨gWV tw722 tw535 tw536 tw3 tw537, ⟨by decide, by decide, by decide⟩⟩
theorem fdX1_65 : uFd RX1 65 6 3 0 none .int := ⟨RX6, TX6, 8, tyX6, rfl, by decide, rfl, inG6, tw57, tyX6_ok, nmX6, (fun b h => by cases h), rfl, by decide⟩
theorem gcX1_68 : uGV RX1 68 yX1_endingBehindAll cX1_endingBehindAll 2 7 (some .long) := ⟨gWV tw724 tw726 ts2_1 tw8 tw727, ⟨by decide, by decide, by decide⟩⟩
theorem gcX1_71 : uGV RX1 71 yX6_leadingInto cX6_leadingInto 1 11 (some .long) := ⟨gWV tw730 tw731 tw732 tw3 tw733, ⟨by decide, by decide, by decide⟩⟩
theorem gcX1_87 : uGV RX1 87 yX1_deliveredBehindOne cX1_deliveredBehindOne 3 8 (some .long) := ⟨gWV tw738 tw740 ts2_3 tw8 tw741, ⟨by decide, by decide, by decide⟩⟩
theorem gcX1_33 : uGV RX1 33 yX1_delivering cX1_delivering 2 13 (some .long) := ⟨gWV tw734 tw736 ts2_2 tw8 tw737, ⟨by decide, by decide, by decide⟩⟩
theorem gcX1_29 : uGV RX1 29 yX1_ending cX1_ending 1 12 (some .long) := ⟨gWV tw717 tw719 ts2_0 tw8 tw720, ⟨by decide, by decide, by decide⟩⟩
theorem gcX1_19 : uGS RX1 19 yJ7_fill_d0a16 cJ7_fill_d0a16 2 5 none := ⟨gWS tw712 tw564 tw5 tw565, ⟨by decide, by decide, by decide⟩⟩
theorem gcX1_25 : uGV RX1 25 yX1_growOnce cX1_growOnce 1 6 (some .boolean) := ⟨gWV tw713 tw715 ts1_15 tw8 tw716, ⟨by decide, by decide, by decide⟩⟩
theorem gcX11_283 : uGV RX11 283 yX1_find cX1_find 1 4 none := ⟨gWV tw708 tw709 tw710 tw8 tw711, ⟨by decide, by decide, by decide⟩⟩
theorem fdX11_286 : uFd RX11 286 1 1 2 none (tyX1 1) := ⟨RX1, TX1, 2, tyX1, rfl, by decide, rfl, inG1, tw199, tyX1_ok, nmX1, (fun b h => by cases h), rfl, by decide⟩
theorem gcX0_82 : uGN RX0 82 yX11_hasHeader cX11_hasHeader 2 3 (some .boolean) := ⟨gW tw644, ⟨by decide, by decide, by decide⟩, ⟨_, tw755⟩, tw643, tw1⟩
theorem fdX0_79 : uFd RX0 79 0 7 0 (some false) .int := ⟨RX0, TX0, 11, tyX0, rfl, by decide, rfl, inG0, tw244, tyX0_ok, nmX0, (fun b h => by cases h; exact ⟨rfl, fun h => by cases h⟩), rfl, by decide⟩
theorem fdX0_97 : uFd RX0 97 4 3 2 none (tyX4 3) := ⟨RX4, TX4, 4, tyX4, rfl, by decide, rfl, inG4, tw136, tyX4_ok, nmX4, (fun b h => by cases h), rfl, by decide⟩
theorem gcX0_103 : uGV RX0 103 yX7_handler cX7_handler 3 7 (some .int) := ⟨gWV tw764 tw686 tw687 tw4 tw688, ⟨by decide, by decide, by decide⟩⟩
theorem fdX0_109 : uFd RX0 109 7 0 2 none (tyX7 0) := ⟨RX7, TX7, 2, tyX7, rfl, by decide, rfl, inG7, tw102, tyX7_ok, nmX7, (fun b h => by cases h), rfl, by decide⟩
theorem gcX0_113 : uGV RX0 113 yX6_rewritten cX6_rewritten 1 2 (some .int) := ⟨gWV tw769 tw696 tw697 tw3 tw698, ⟨by decide, by decide, by decide⟩⟩
theorem fdX0_119 : uFd RX0 119 6 3 0 none .int := ⟨RX6, TX6, 8, tyX6, rfl, by decide, rfl, inG6, tw60, tyX6_ok, nmX6, (fun b h => by cases h), rfl, by decide⟩
theorem gcX0_122 : uGN RX0 122 yX11_hasPort cX11_hasPort 2 2 (some .boolean) := ⟨gW tw597, ⟨by decide, by decide, by decide⟩, ⟨_, tw770⟩, tw596, tw1⟩
theorem fdX0_125 : uFd RX0 125 4 2 2 none (tyX4 2) := ⟨RX4, TX4, 4, tyX4, rfl, by decide, rfl, inG4, tw129, tyX4_ok, nmX4, (fun b h => by cases h), rfl, by decide⟩
theorem gcX0_128 : uGN RX0 128 yX11_placeOf cX11_placeOf 2 2 (some .int) := ⟨gW tw402, ⟨by decide, by decide, by decide⟩, ⟨_, tw771⟩, tw401, tw1⟩
theorem fdX0_43 : uFd RX0 43 0 10 0 (some false) .int := ⟨RX0, TX0, 11, tyX0, rfl, by decide, rfl, inG0, tw247, tyX0_ok, nmX0, (fun b h => by cases h; exact ⟨rfl, fun h => by cases h⟩), rfl, by decide⟩
theorem gcX0_85 : uGV RX0 85 yX0_enqueue cX0_enqueue 3 5 none := ⟨gWV tw756 tw758 ts2_5 tw10 tw759, ⟨by decide, by decide, by decide⟩⟩
theorem gcX0_73 : uGS RX0 73 yJ7_fill_d0a16 cJ7_fill_d0a16 2 5 none := ⟨gWS tw754 tw564 tw5 tw565, ⟨by decide, by decide, by decide⟩⟩
theorem fdX0_39 : uFd RX0 39 0 9 1 (some false) .long := ⟨RX0, TX0, 11, tyX0, rfl, by decide, rfl, inG0, tw246, tyX0_ok, nmX0, (fun b h => by cases h; exact ⟨rfl, fun h => by cases h⟩), rfl, by decide⟩
theorem fdX0_35 : uFd RX0 35 0 8 0 (some false) .int := ⟨RX0, TX0, 11, tyX0, rfl, by decide, rfl, inG0, tw245, tyX0_ok, nmX0, (fun b h => by cases h; exact ⟨rfl, fun h => by cases h⟩), rfl, by decide⟩
theorem gcX0_89 : uGV RX0 89 yX0_handlingSlot cX0_handlingSlot 2 9 (some .int) := ⟨gWV tw760 tw762 ts2_6 tw10 tw763, ⟨by decide, by decide, by decide⟩⟩
theorem gcX0_93 : uGV RX0 93 yX0_reachesTarget cX0_reachesTarget 2 10 (some .boolean) := ⟨gWV tw765 tw767 ts2_7 tw10 tw768, ⟨by decide, by decide, by decide⟩⟩
theorem gcX0_61 : uGS RX0 61 yX0_isOn cX0_isOn 2 3 (some .boolean) := ⟨gWS tw776 tw777 tw10 tw778, ⟨by decide, by decide, by decide⟩⟩
theorem gcX0_46 : uGV RX0 46 yX0_openWay cX0_openWay 1 5 (some .long) := ⟨gWV tw750 tw752 ts2_4 tw10 tw753, ⟨by decide, by decide, by decide⟩⟩
theorem gcX0_65 : uGV RX0 65 yX0_knownWay cX0_knownWay 2 3 (some .long) := ⟨gWV tw783 tw785 ts2_10 tw10 tw786, ⟨by decide, by decide, by decide⟩⟩
theorem gcX0_69 : uGV RX0 69 yX0_isWorthTrying cX0_isWorthTrying 3 4 (some .boolean) := ⟨gWV tw791 tw793 ts2_12 tw10 tw794, ⟨by decide, by decide, by decide⟩⟩
theorem gcX0_50 : uGV RX0 50 yX0_cutByOne cX0_cutByOne 1 4 (some .boolean) := ⟨gWV tw772 tw774 ts2_8 tw10 tw775, ⟨by decide, by decide, by decide⟩⟩
theorem gcX0_54 : uGV RX0 54 yX0_cutByTwo cX0_cutByTwo 0 5 (some .boolean) := ⟨gWV tw779 tw781 ts2_9 tw10 tw782, ⟨by decide, by decide, by decide⟩⟩
theorem gcX0_58 : uGV RX0 58 yX0_cutByThree cX0_cutByThree 0 6 (some .boolean) := ⟨gWV tw787 tw789 ts2_11 tw10 tw790, ⟨by decide, by decide, by decide⟩⟩
theorem gcX11_289 : uGV RX11 289 yX0_smallest cX0_smallest 3 7 (some .int) := ⟨gWV tw746 tw747 tw748 tw10 tw749, ⟨by decide, by decide, by decide⟩⟩
theorem fdX11_293 : uFd RX11 293 0 1 2 none (tyX0 1) := ⟨RX0, TX0, 11, tyX0, rfl, by decide, rfl, inG0, tw238, tyX0_ok, nmX0, (fun b h => by cases h), rfl, by decide⟩
theorem fdX11_296 : uFd RX11 296 5 0 0 (some false) .boolean := ⟨RX5, TX5, 4, tyX5, rfl, by decide, rfl, inG5, tw331, tyX5_ok, nmX5, (fun b h => by cases h; exact ⟨rfl, fun h => by cases h⟩), rfl, by decide⟩
theorem fdX11_299 : uFd RX11 299 5 1 0 (some false) .int := ⟨RX5, TX5, 4, tyX5, rfl, by decide, rfl, inG5, tw332, tyX5_ok, nmX5, (fun b h => by cases h; exact ⟨rfl, fun h => by cases h⟩), rfl, by decide⟩
theorem fdX11_302 : uFd RX11 302 5 2 0 (some false) .int := ⟨RX5, TX5, 4, tyX5, rfl, by decide, rfl, inG5, tw333, tyX5_ok, nmX5, (fun b h => by cases h; exact ⟨rfl, fun h => by cases h⟩), rfl, by decide⟩
theorem fdX11_305 : uFd RX11 305 5 3 1 (some false) .long := ⟨RX5, TX5, 4, tyX5, rfl, by decide, rfl, inG5, tw334, tyX5_ok, nmX5, (fun b h => by cases h; exact ⟨rfl, fun h => by cases h⟩), rfl, by decide⟩
theorem gcX11_308 : uGV RX11 308 yX11_isPolicy cX11_isPolicy 1 2 (some .boolean) := ⟨gWV tw807 tw809 ts2_13 tw1 tw810, ⟨by decide, by decide, by decide⟩⟩
theorem gcX11_311 : uGV RX11 311 yX11_against cX11_against 1 4 (some .long) := ⟨gWV tw815 tw817 ts2_14 tw1 tw818, ⟨by decide, by decide, by decide⟩⟩
theorem fdX11_315 : uFd RX11 315 9 1 0 (some false) .int := ⟨RX9, TX9, 9, tyX9, rfl, by decide, rfl, inG9, tw280, tyX9_ok, nmX9, (fun b h => by cases h; exact ⟨rfl, fun h => by cases h⟩), rfl, by decide⟩
theorem fdX11_318 : uFd RX11 318 9 0 2 none (tyX9 0) := ⟨RX9, TX9, 9, tyX9, rfl, by decide, rfl, inG9, tw278, tyX9_ok, nmX9, (fun b h => by cases h), rfl, by decide⟩
theorem fdX9_15 : uFd RX9 15 9 2 0 (some false) .int := ⟨RX9, TX9, 9, tyX9, rfl, by decide, rfl, inG9, tw281, tyX9_ok, nmX9, (fun b h => by cases h; exact ⟨rfl, fun h => by cases h⟩), rfl, by decide⟩
theorem fdX9_40 : uFd RX9 40 9 1 0 (some false) .int := ⟨RX9, TX9, 9, tyX9, rfl, by decide, rfl, inG9, tw279, tyX9_ok, nmX9, (fun b h => by cases h; exact ⟨rfl, fun h => by cases h⟩), rfl, by decide⟩
theorem gcX9_32 : uGV RX9 32 yX9_accepts cX9_accepts 1 2 (some .boolean) := ⟨gWV tw847 tw849 ts3_0 tw11 tw850, ⟨by decide, by decide, by decide⟩⟩
theorem gcX9_63 : uGV RX9 63 yX9_readDigits cX9_readDigits 0 3 (some .int) := ⟨gWV tw851 tw853 ts3_1 tw11 tw854, ⟨by decide, by decide, by decide⟩⟩
theorem fdX9_51 : uFd RX9 51 9 3 0 (some false) .int := ⟨RX9, TX9, 9, tyX9, rfl, by decide, rfl, inG9, tw283, tyX9_ok, nmX9, (fun b h => by cases h; exact ⟨rfl, fun h => by cases h⟩), rfl, by decide⟩
theorem fdX9_54 : uFd RX9 54 9 5 0 (some false) .int := ⟨RX9, TX9, 9, tyX9, rfl, by decide, rfl, inG9, tw285, tyX9_ok, nmX9, (fun b h => by cases h; exact ⟨rfl, fun h => by cases h⟩), rfl, by decide⟩
theorem fdX9_57 : uFd RX9 57 9 6 0 (some false) .int := ⟨RX9, TX9, 9, tyX9, rfl, by decide, rfl, inG9, tw286, tyX9_ok, nmX9, (fun b h => by cases h; exact ⟨rfl, fun h => by cases h⟩), rfl, by decide⟩
theorem fdX9_19 : uFd RX9 19 9 4 0 (some false) .int := ⟨RX9, TX9, 9, tyX9, rfl, by decide, rfl, inG9, tw284, tyX9_ok, nmX9, (fun b h => by cases h; exact ⟨rfl, fun h => by cases h⟩), rfl, by decide⟩
theorem fdX9_22 : uFd RX9 22 9 7 0 (some false) .int := ⟨RX9, TX9, 9, tyX9, rfl, by decide, rfl, inG9, tw287, tyX9_ok, nmX9, (fun b h => by cases h; exact ⟨rfl, fun h => by cases h⟩), rfl, by decide⟩
theorem fdX9_25 : uFd RX9 25 9 8 0 (some false) .int := ⟨RX9, TX9, 9, tyX9, rfl, by decide, rfl, inG9, tw288, tyX9_ok, nmX9, (fun b h => by cases h; exact ⟨rfl, fun h => by cases h⟩), rfl, by decide⟩
theorem gcX9_36 : uGV RX9 36 yX9_readsPattern cX9_readsPattern 1 3 (some .boolean) := ⟨gWV tw855 tw857 ts3_2 tw11 tw858, ⟨by decide, by decide, by decide⟩⟩
theorem gcX9_28 : uGV RX9 28 yX9_readsPorts cX9_readsPorts 0 1 (some .boolean) := ⟨gWV tw843 tw845 ts2_15 tw11 tw846, ⟨by decide, by decide, by decide⟩⟩
theorem gcX9_43 : uGV RX9 43 yX9_readsOutputs cX9_readsOutputs 0 1 (some .boolean) := ⟨gWV tw859 tw861 ts3_3 tw11 tw862, ⟨by decide, by decide, by decide⟩⟩
theorem gcX9_46 : uGV RX9 46 yX9_readsRewriting cX9_readsRewriting 1 5 (some .boolean) := ⟨gWV tw863 tw865 ts3_4 tw11 tw866, ⟨by decide, by decide, by decide⟩⟩
theorem cdX9_49 : uCd RX9 49 6 8 := ⟨RX6, TX6, tyX6, rfl, inG6, tyX6_ok, by decide, tw871, tw34, tw3, by decide⟩
theorem gcX9_60 : uGI RX9 60 yX6_init cX6_init 7 8 := ⟨gW tw37, ⟨by decide, by decide, by decide⟩, tw872, tw36, tw3, rfl⟩
theorem gcX11_322 : uGV RX11 322 yX9_isRule cX9_isRule 1 2 (some .boolean) := ⟨gWV tw839 tw840 tw841 tw11 tw842, ⟨by decide, by decide, by decide⟩⟩
theorem gcX11_328 : uGV RX11 328 yX9_readOne cX9_readOne 0 1 (some (.object RX6)) := ⟨gWV tw867 tw868 tw869 tw11 tw870, ⟨by decide, by decide, by decide⟩⟩
theorem fdX11_325 : uFd RX11 325 9 2 0 (some false) .int := ⟨RX9, TX9, 9, tyX9, rfl, by decide, rfl, inG9, tw282, tyX9_ok, nmX9, (fun b h => by cases h; exact ⟨rfl, fun h => by cases h⟩), rfl, by decide⟩
theorem fdX8_15 : uFd RX8 15 8 1 0 (some false) .int := ⟨RX8, TX8, 2, tyX8, rfl, by decide, rfl, inG8, tw317, tyX8_ok, nmX8, (fun b h => by cases h; exact ⟨rfl, fun h => by cases h⟩), rfl, by decide⟩
theorem gcX8_51 : uGN RX8 51 yX11_hasPort cX11_hasPort 2 2 (some .boolean) := ⟨gW tw597, ⟨by decide, by decide, by decide⟩, ⟨_, tw889⟩, tw596, tw1⟩
theorem gcX8_24 : uGV RX8 24 yX8_put cX8_put 1 2 none := ⟨gWV tw881 tw883 ts3_5 tw12 tw884, ⟨by decide, by decide, by decide⟩⟩
theorem fdX8_19 : uFd RX8 19 6 0 0 none .int := ⟨RX6, TX6, 8, tyX6, rfl, by decide, rfl, inG6, tw47, tyX6_ok, nmX6, (fun b h => by cases h), rfl, by decide⟩
theorem gcX8_28 : uGV RX8 28 yX8_putDigits cX8_putDigits 1 3 none := ⟨gWV tw885 tw887 ts3_6 tw12 tw888, ⟨by decide, by decide, by decide⟩⟩
theorem fdX8_32 : uFd RX8 32 6 1 0 none .int := ⟨RX6, TX6, 8, tyX6, rfl, by decide, rfl, inG6, tw50, tyX6_ok, nmX6, (fun b h => by cases h), rfl, by decide⟩
theorem fdX8_35 : uFd RX8 35 6 2 0 none .int := ⟨RX6, TX6, 8, tyX6, rfl, by decide, rfl, inG6, tw53, tyX6_ok, nmX6, (fun b h => by cases h), rfl, by decide⟩
theorem gcX8_38 : uGV RX8 38 yX8_putPattern cX8_putPattern 3 5 none := ⟨gWV tw890 tw892 ts3_7 tw12 tw893, ⟨by decide, by decide, by decide⟩⟩
theorem fdX8_42 : uFd RX8 42 6 3 0 none .int := ⟨RX6, TX6, 8, tyX6, rfl, by decide, rfl, inG6, tw56, tyX6_ok, nmX6, (fun b h => by cases h), rfl, by decide⟩
theorem fdX8_45 : uFd RX8 45 6 4 0 none .int := ⟨RX6, TX6, 8, tyX6, rfl, by decide, rfl, inG6, tw62, tyX6_ok, nmX6, (fun b h => by cases h), rfl, by decide⟩
theorem fdX8_48 : uFd RX8 48 6 5 0 none .int := ⟨RX6, TX6, 8, tyX6, rfl, by decide, rfl, inG6, tw65, tyX6_ok, nmX6, (fun b h => by cases h), rfl, by decide⟩
theorem gcX11_332 : uGV RX11 332 yX8_write cX8_write 2 3 none := ⟨gWV tw877 tw878 tw879 tw12 tw880, ⟨by decide, by decide, by decide⟩⟩
theorem fdX11_336 : uFd RX11 336 8 1 0 (some false) .int := ⟨RX8, TX8, 2, tyX8, rfl, by decide, rfl, inG8, tw318, tyX8_ok, nmX8, (fun b h => by cases h; exact ⟨rfl, fun h => by cases h⟩), rfl, by decide⟩
theorem fdX11_337 : uFd RX11 337 8 0 2 none (tyX8 0) := ⟨RX8, TX8, 2, tyX8, rfl, by decide, rfl, inG8, tw316, tyX8_ok, nmX8, (fun b h => by cases h), rfl, by decide⟩
theorem fdX12_7 : uFd RX12 7 12 1 2 (some true) (tyX12 1) := ⟨RX12, TX12, 33, tyX12, rfl, by decide, rfl, inG12, tw905, tyX12_ok, nmX12, (fun b h => by cases h; exact ⟨rfl, fun _ => rfl⟩), rfl, by decide⟩
theorem fdX12_76 : uFd RX12 76 12 2 0 (some false) .int := ⟨RX12, TX12, 33, tyX12, rfl, by decide, rfl, inG12, tw906, tyX12_ok, nmX12, (fun b h => by cases h; exact ⟨rfl, fun h => by cases h⟩), rfl, by decide⟩
theorem fdX12_13 : uFd RX12 13 12 3 2 (some true) (tyX12 3) := ⟨RX12, TX12, 33, tyX12, rfl, by decide, rfl, inG12, tw907, tyX12_ok, nmX12, (fun b h => by cases h; exact ⟨rfl, fun _ => rfl⟩), rfl, by decide⟩
theorem fdX12_79 : uFd RX12 79 12 4 0 (some false) .int := ⟨RX12, TX12, 33, tyX12, rfl, by decide, rfl, inG12, tw908, tyX12_ok, nmX12, (fun b h => by cases h; exact ⟨rfl, fun h => by cases h⟩), rfl, by decide⟩
theorem fdX12_82 : uFd RX12 82 12 5 0 (some false) .int := ⟨RX12, TX12, 33, tyX12, rfl, by decide, rfl, inG12, tw909, tyX12_ok, nmX12, (fun b h => by cases h; exact ⟨rfl, fun h => by cases h⟩), rfl, by decide⟩
theorem fdX12_85 : uFd RX12 85 12 6 0 (some false) .int := ⟨RX12, TX12, 33, tyX12, rfl, by decide, rfl, inG12, tw910, tyX12_ok, nmX12, (fun b h => by cases h; exact ⟨rfl, fun h => by cases h⟩), rfl, by decide⟩
theorem fdX12_88 : uFd RX12 88 12 19 0 (some false) .int := ⟨RX12, TX12, 33, tyX12, rfl, by decide, rfl, inG12, tw923, tyX12_ok, nmX12, (fun b h => by cases h; exact ⟨rfl, fun h => by cases h⟩), rfl, by decide⟩
theorem fdX12_91 : uFd RX12 91 12 7 0 (some false) .int := ⟨RX12, TX12, 33, tyX12, rfl, by decide, rfl, inG12, tw911, tyX12_ok, nmX12, (fun b h => by cases h; exact ⟨rfl, fun h => by cases h⟩), rfl, by decide⟩
theorem fdX12_16 : uFd RX12 16 12 8 2 (some true) (tyX12 8) := ⟨RX12, TX12, 33, tyX12, rfl, by decide, rfl, inG12, tw912, tyX12_ok, nmX12, (fun b h => by cases h; exact ⟨rfl, fun _ => rfl⟩), rfl, by decide⟩
theorem fdX12_19 : uFd RX12 19 12 9 2 (some true) (tyX12 9) := ⟨RX12, TX12, 33, tyX12, rfl, by decide, rfl, inG12, tw913, tyX12_ok, nmX12, (fun b h => by cases h; exact ⟨rfl, fun _ => rfl⟩), rfl, by decide⟩
theorem fdX12_22 : uFd RX12 22 12 10 2 (some true) (tyX12 10) := ⟨RX12, TX12, 33, tyX12, rfl, by decide, rfl, inG12, tw914, tyX12_ok, nmX12, (fun b h => by cases h; exact ⟨rfl, fun _ => rfl⟩), rfl, by decide⟩
theorem fdX12_26 : uFd RX12 26 12 11 2 (some true) (tyX12 11) := ⟨RX12, TX12, 33, tyX12, rfl, by decide, rfl, inG12, tw915, tyX12_ok, nmX12, (fun b h => by cases h; exact ⟨rfl, fun _ => rfl⟩), rfl, by decide⟩
theorem fdX12_29 : uFd RX12 29 12 12 2 (some true) (tyX12 12) := ⟨RX12, TX12, 33, tyX12, rfl, by decide, rfl, inG12, tw916, tyX12_ok, nmX12, (fun b h => by cases h; exact ⟨rfl, fun _ => rfl⟩), rfl, by decide⟩
theorem fdX12_32 : uFd RX12 32 12 13 2 (some true) (tyX12 13) := ⟨RX12, TX12, 33, tyX12, rfl, by decide, rfl, inG12, tw917, tyX12_ok, nmX12, (fun b h => by cases h; exact ⟨rfl, fun _ => rfl⟩), rfl, by decide⟩
theorem fdX12_35 : uFd RX12 35 12 14 2 (some true) (tyX12 14) := ⟨RX12, TX12, 33, tyX12, rfl, by decide, rfl, inG12, tw918, tyX12_ok, nmX12, (fun b h => by cases h; exact ⟨rfl, fun _ => rfl⟩), rfl, by decide⟩
theorem fdX12_38 : uFd RX12 38 12 17 2 (some true) (tyX12 17) := ⟨RX12, TX12, 33, tyX12, rfl, by decide, rfl, inG12, tw921, tyX12_ok, nmX12, (fun b h => by cases h; exact ⟨rfl, fun _ => rfl⟩), rfl, by decide⟩
theorem fdX12_41 : uFd RX12 41 12 18 2 (some true) (tyX12 18) := ⟨RX12, TX12, 33, tyX12, rfl, by decide, rfl, inG12, tw922, tyX12_ok, nmX12, (fun b h => by cases h; exact ⟨rfl, fun _ => rfl⟩), rfl, by decide⟩
theorem fdX12_44 : uFd RX12 44 12 20 2 (some true) (tyX12 20) := ⟨RX12, TX12, 33, tyX12, rfl, by decide, rfl, inG12, tw924, tyX12_ok, nmX12, (fun b h => by cases h; exact ⟨rfl, fun _ => rfl⟩), rfl, by decide⟩
theorem fdX12_48 : uFd RX12 48 12 21 2 (some true) (tyX12 21) := ⟨RX12, TX12, 33, tyX12, rfl, by decide, rfl, inG12, tw925, tyX12_ok, nmX12, (fun b h => by cases h; exact ⟨rfl, fun _ => rfl⟩), rfl, by decide⟩
theorem fdX12_51 : uFd RX12 51 12 22 2 (some true) (tyX12 22) := ⟨RX12, TX12, 33, tyX12, rfl, by decide, rfl, inG12, tw926, tyX12_ok, nmX12, (fun b h => by cases h; exact ⟨rfl, fun _ => rfl⟩), rfl, by decide⟩
theorem fdX12_54 : uFd RX12 54 12 23 2 (some true) (tyX12 23) := ⟨RX12, TX12, 33, tyX12, rfl, by decide, rfl, inG12, tw927, tyX12_ok, nmX12, (fun b h => by cases h; exact ⟨rfl, fun _ => rfl⟩), rfl, by decide⟩
theorem fdX12_57 : uFd RX12 57 12 24 2 (some true) (tyX12 24) := ⟨RX12, TX12, 33, tyX12, rfl, by decide, rfl, inG12, tw928, tyX12_ok, nmX12, (fun b h => by cases h; exact ⟨rfl, fun _ => rfl⟩), rfl, by decide⟩
theorem fdX12_60 : uFd RX12 60 12 26 2 (some true) (tyX12 26) := ⟨RX12, TX12, 33, tyX12, rfl, by decide, rfl, inG12, tw930, tyX12_ok, nmX12, (fun b h => by cases h; exact ⟨rfl, fun _ => rfl⟩), rfl, by decide⟩
theorem fdX12_64 : uFd RX12 64 12 32 2 (some true) (tyX12 32) := ⟨RX12, TX12, 33, tyX12, rfl, by decide, rfl, inG12, tw936, tyX12_ok, nmX12, (fun b h => by cases h; exact ⟨rfl, fun _ => rfl⟩), rfl, by decide⟩
theorem fdX12_67 : uFd RX12 67 12 0 0 (some false) .int := ⟨RX12, TX12, 33, tyX12, rfl, by decide, rfl, inG12, tw904, tyX12_ok, nmX12, (fun b h => by cases h; exact ⟨rfl, fun h => by cases h⟩), rfl, by decide⟩
theorem gcX12_71 : uGV RX12 71 yX12_begin cX12_begin 0 2 none := ⟨gWV tw900 tw902 ts3_8 tw14 tw903, ⟨by decide, by decide, by decide⟩⟩
theorem gcX12_94 : uGS RX12 94 yX12_in cX12_in 3 3 (some .boolean) := ⟨gWS tw1009 tw1010 tw14 tw1011, ⟨by decide, by decide, by decide⟩⟩
theorem gcX12_98 : uGV RX12 98 yX12_headers cX12_headers 0 1 (some .int) := ⟨gWV tw1050 tw1052 ts3_12 tw14 tw1053, ⟨by decide, by decide, by decide⟩⟩
theorem gcX12_102 : uGS RX12 102 yX12_noBox cX12_noBox 1 1 (some .boolean) := ⟨gWS tw1019 tw1020 tw14 tw1021, ⟨by decide, by decide, by decide⟩⟩
theorem gcX12_106 : uGS RX12 106 yX12_noPlace cX12_noPlace 2 2 (some .boolean) := ⟨gWS tw1016 tw1017 tw14 tw1018, ⟨by decide, by decide, by decide⟩⟩
theorem gcX12_110 : uGV RX12 110 yX12_many cX12_many 1 2 (some .int) := ⟨gWV tw1042 tw1044 ts3_10 tw14 tw1045, ⟨by decide, by decide, by decide⟩⟩
theorem gcX12_114 : uGV RX12 114 yX12_of cX12_of 3 4 (some .int) := ⟨gWV tw1062 tw1064 ts3_15 tw14 tw1065, ⟨by decide, by decide, by decide⟩⟩
theorem gcX12_118 : uGV RX12 118 yX12_put cX12_put 4 5 none := ⟨gWV tw1066 tw1068 ts4_0 tw14 tw1069, ⟨by decide, by decide, by decide⟩⟩
theorem gcX12_122 : uGV RX12 122 yX12_noHeader cX12_noHeader 1 2 (some .boolean) := ⟨gWV tw1046 tw1048 ts3_11 tw14 tw1049, ⟨by decide, by decide, by decide⟩⟩
theorem gcX12_125 : uGV RX12 125 yX12_keep cX12_keep 0 2 none := ⟨gWV tw1054 tw1056 ts3_13 tw14 tw1057, ⟨by decide, by decide, by decide⟩⟩
theorem gcX12_128 : uGV RX12 128 yX12_open cX12_open 2 5 none := ⟨gWV tw1058 tw1060 ts3_14 tw14 tw1061, ⟨by decide, by decide, by decide⟩⟩
theorem gcX12_132 : uGV RX12 132 yX12_insert cX12_insert 6 7 (some .int) := ⟨gWV tw1038 tw1040 ts3_9 tw14 tw1041, ⟨by decide, by decide, by decide⟩⟩
theorem gcX12_136 : uGV RX12 136 yX12_noRule cX12_noRule 2 3 (some .boolean) := ⟨gWV tw1082 tw1084 ts4_2 tw14 tw1085, ⟨by decide, by decide, by decide⟩⟩
theorem gcX12_139 : uGV RX12 139 yX12_ruleBarred cX12_ruleBarred 2 3 (some .int) := ⟨gWV tw1078 tw1080 ts4_1 tw14 tw1081, ⟨by decide, by decide, by decide⟩⟩
theorem gcX12_143 : uGV RX12 143 yX12_close cX12_close 2 5 none := ⟨gWV tw1090 tw1092 ts4_3 tw14 tw1093, ⟨by decide, by decide, by decide⟩⟩
theorem gcX12_146 : uGV RX12 146 yX12_matches cX12_matches 4 5 (some .boolean) := ⟨gWV tw1118 tw1120 ts4_5 tw14 tw1121, ⟨by decide, by decide, by decide⟩⟩
theorem gcX12_150 : uGV RX12 150 yX12_handler cX12_handler 3 5 (some .int) := ⟨gWV tw1114 tw1116 ts4_4 tw14 tw1117, ⟨by decide, by decide, by decide⟩⟩
theorem gcX12_153 : uGV RX12 153 yX12_isInjected cX12_isInjected 1 2 (some .boolean) := ⟨gWV tw1130 tw1132 ts4_7 tw14 tw1133, ⟨by decide, by decide, by decide⟩⟩
theorem gcX12_156 : uGV RX12 156 yX12_rewritten cX12_rewritten 3 4 (some .int) := ⟨gWV tw1158 tw1160 ts4_11 tw14 tw1161, ⟨by decide, by decide, by decide⟩⟩
theorem gcX12_161 : uGV RX12 161 yX12_goOn cX12_goOn 2 9 none := ⟨gWV tw1154 tw1156 ts4_10 tw14 tw1157, ⟨by decide, by decide, by decide⟩⟩
theorem gcX12_164 : uGV RX12 164 yX12_injected cX12_injected 0 4 (some .long) := ⟨gWV tw1126 tw1128 ts4_6 tw14 tw1129, ⟨by decide, by decide, by decide⟩⟩
theorem gcX12_168 : uGV RX12 168 yX12_spread cX12_spread 2 9 none := ⟨gWV tw1149 tw1151 ts4_9 tw14 tw1152, ⟨by decide, by decide, by decide⟩⟩
theorem gcX12_172 : uGS RX12 172 yX12_size cX12_size 1 5 (some .int) := ⟨gWS tw1134 tw1135 tw14 tw1136, ⟨by decide, by decide, by decide⟩⟩
theorem gcX12_179 : uGV RX12 179 yX12_spreadAll cX12_spreadAll 0 1 none := ⟨gWV tw1145 tw1147 ts4_8 tw14 tw1148, ⟨by decide, by decide, by decide⟩⟩
theorem gcX12_176 : uGS RX12 176 yX12_lost cX12_lost 0 0 (some .long) := ⟨gWS tw1141 tw1142 tw14 tw1143, ⟨by decide, by decide, by decide⟩⟩
theorem gcX12_182 : uGV RX12 182 yX12_handledBy cX12_handledBy 2 6 (some .int) := ⟨gWV tw1170 tw1172 ts4_12 tw14 tw1173, ⟨by decide, by decide, by decide⟩⟩
theorem gcX12_185 : uGV RX12 185 yX12_cubeOf cX12_cubeOf 2 6 (some .long) := ⟨gWV tw1182 tw1184 ts4_13 tw14 tw1185, ⟨by decide, by decide, by decide⟩⟩
theorem fdX12_189 : uFd RX12 189 12 15 0 (some false) .int := ⟨RX12, TX12, 33, tyX12, rfl, by decide, rfl, inG12, tw919, tyX12_ok, nmX12, (fun b h => by cases h; exact ⟨rfl, fun h => by cases h⟩), rfl, by decide⟩
theorem fdX12_192 : uFd RX12 192 12 16 0 (some false) .int := ⟨RX12, TX12, 33, tyX12, rfl, by decide, rfl, inG12, tw920, tyX12_ok, nmX12, (fun b h => by cases h; exact ⟨rfl, fun h => by cases h⟩), rfl, by decide⟩
theorem gcX12_195 : uGV RX12 195 yX12_wasThere cX12_wasThere 1 3 (some .boolean) := ⟨gWV tw1202 tw1204 ts4_15 tw14 tw1205, ⟨by decide, by decide, by decide⟩⟩
theorem gcX12_198 : uGV RX12 198 yX12_follow cX12_follow 1 9 none := ⟨gWV tw1198 tw1200 ts4_14 tw14 tw1201, ⟨by decide, by decide, by decide⟩⟩
theorem gcX12_202 : uGV RX12 202 yX12_isSafe cX12_isSafe 2 9 (some .boolean) := ⟨gWV tw1214 tw1216 ts5_0 tw14 tw1217, ⟨by decide, by decide, by decide⟩⟩
theorem gcX12_211 : uGV RX12 211 yX12_isOn cX12_isOn 1 2 (some .boolean) := ⟨gWV tw1238 tw1240 ts5_5 tw14 tw1241, ⟨by decide, by decide, by decide⟩⟩
theorem gcX12_208 : uGV RX12 208 yX12_turn cX12_turn 2 3 none := ⟨gWV tw1234 tw1236 ts5_4 tw14 tw1237, ⟨by decide, by decide, by decide⟩⟩
theorem gcX12_205 : uGV RX12 205 yX12_isStopped cX12_isStopped 1 2 (some .boolean) := ⟨gWV tw1230 tw1232 ts5_3 tw14 tw1233, ⟨by decide, by decide, by decide⟩⟩
theorem gcX12_214 : uGV RX12 214 yX12_findCut cX12_findCut 2 6 (some .boolean) := ⟨gWV tw1226 tw1228 ts5_2 tw14 tw1229, ⟨by decide, by decide, by decide⟩⟩
theorem gcX12_217 : uGV RX12 217 yX12_findSize cX12_findSize 1 3 (some .int) := ⟨gWV tw1222 tw1224 ts5_1 tw14 tw1225, ⟨by decide, by decide, by decide⟩⟩
theorem gcX12_220 : uGV RX12 220 yX12_noPolicy cX12_noPolicy 1 2 (some .boolean) := ⟨gWV tw1254 tw1256 ts5_6 tw14 tw1257, ⟨by decide, by decide, by decide⟩⟩
theorem gcX12_223 : uGV RX12 223 yX12_against cX12_against 1 6 (some .long) := ⟨gWV tw1262 tw1264 ts5_7 tw14 tw1265, ⟨by decide, by decide, by decide⟩⟩
theorem fdX12_227 : uFd RX12 227 12 25 0 (some false) .int := ⟨RX12, TX12, 33, tyX12, rfl, by decide, rfl, inG12, tw929, tyX12_ok, nmX12, (fun b h => by cases h; exact ⟨rfl, fun h => by cases h⟩), rfl, by decide⟩
theorem fdX12_230 : uFd RX12 230 12 27 0 (some false) .int := ⟨RX12, TX12, 33, tyX12, rfl, by decide, rfl, inG12, tw931, tyX12_ok, nmX12, (fun b h => by cases h; exact ⟨rfl, fun h => by cases h⟩), rfl, by decide⟩
theorem fdX12_233 : uFd RX12 233 12 28 0 (some false) .boolean := ⟨RX12, TX12, 33, tyX12, rfl, by decide, rfl, inG12, tw932, tyX12_ok, nmX12, (fun b h => by cases h; exact ⟨rfl, fun h => by cases h⟩), rfl, by decide⟩
theorem gcX12_237 : uGV RX12 237 yX12_isAt cX12_isAt 1 2 (some .boolean) := ⟨gWV tw1286 tw1288 ts5_8 tw14 tw1289, ⟨by decide, by decide, by decide⟩⟩
theorem fdX12_241 : uFd RX12 241 12 29 0 (some false) .int := ⟨RX12, TX12, 33, tyX12, rfl, by decide, rfl, inG12, tw933, tyX12_ok, nmX12, (fun b h => by cases h; exact ⟨rfl, fun h => by cases h⟩), rfl, by decide⟩
theorem fdX12_244 : uFd RX12 244 12 30 0 (some false) .int := ⟨RX12, TX12, 33, tyX12, rfl, by decide, rfl, inG12, tw934, tyX12_ok, nmX12, (fun b h => by cases h; exact ⟨rfl, fun h => by cases h⟩), rfl, by decide⟩
theorem gcX12_247 : uGV RX12 247 yX12_readPorts cX12_readPorts 0 2 (some .int) := ⟨gWV tw1290 tw1292 ts5_9 tw14 tw1293, ⟨by decide, by decide, by decide⟩⟩
theorem gcX12_250 : uGV RX12 250 yX12_expect cX12_expect 1 2 none := ⟨gWV tw1294 tw1296 ts5_10 tw14 tw1297, ⟨by decide, by decide, by decide⟩⟩
theorem gcX12_254 : uGV RX12 254 yX12_readPattern cX12_readPattern 0 2 none := ⟨gWV tw1298 tw1300 ts5_11 tw14 tw1301, ⟨by decide, by decide, by decide⟩⟩
theorem fdX12_257 : uFd RX12 257 12 31 0 (some false) .int := ⟨RX12, TX12, 33, tyX12, rfl, by decide, rfl, inG12, tw935, tyX12_ok, nmX12, (fun b h => by cases h; exact ⟨rfl, fun h => by cases h⟩), rfl, by decide⟩
theorem gcX12_260 : uGV RX12 260 yX12_write cX12_write 1 2 none := ⟨gWV tw1306 tw1308 ts5_12 tw14 tw1309, ⟨by decide, by decide, by decide⟩⟩
theorem gcX12_263 : uGV RX12 263 yX12_writePorts cX12_writePorts 1 3 none := ⟨gWV tw1310 tw1312 ts5_13 tw14 tw1313, ⟨by decide, by decide, by decide⟩⟩
theorem gcX12_266 : uGV RX12 266 yX12_writePattern cX12_writePattern 2 4 none := ⟨gWV tw1314 tw1316 ts5_14 tw14 tw1317, ⟨by decide, by decide, by decide⟩⟩
