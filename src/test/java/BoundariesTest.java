/** Every sentence of the document by a test of its own: its edges on both sides, what it refuses, what it keeps. */
public final class BoundariesTest {
    private BoundariesTest() {
    }

    public static void main(String[] args) throws Exception {
        Ledger.open();
        FrontBounds.all();
        TextBounds.all();
        SeriesBounds.all();
        ActBounds.all();
        AskBounds.all();
        CallBounds.all();
        Refusals.all();
        if (!Ledger.close("What it is", "Not promised")) {
            System.exit(1);
        }
    }
}
