/** Each sentence of the document that names a boundary case, with a test of its own. */
public final class RowRingBoundariesTest extends Boundaries {
    private RowRingBoundariesTest() {
    }

    public static void main(String[] args) {
        TextBoundaries.test();
        ActBoundaries.test();
        AskedBoundaries.test();
        KeptBoundaries.test();
        allNamed();
        finish();
    }
}
