/** The boundary cases of the document, sentence by sentence; no sentence of it may be left out. */
public final class BoundsTest {
    private BoundsTest() {
    }

    public static void main(String[] args) {
        DescriptionBounds.run();
        NetworkBounds.run();
        RulesBounds.run();
        QuestionsBounds.run();
        ArrivalsBounds.run();
        PacketsBounds.run();
        PoliciesBounds.run();
        TextsBounds.run();
        Bounds.end();
    }
}
