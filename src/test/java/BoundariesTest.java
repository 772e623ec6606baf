/**
 * Each sentence of the document that names a boundary case, promise by promise: the classes named here test them,
 * and Bounds.finish() looks whether one was left out.
 */
public final class BoundariesTest {
    private BoundariesTest() {
    }

    public static void main(String[] args) throws Exception {
        Bounds.readDocument();
        MachineBounds.test();
        RunBounds.test();
        MendBounds.test();
        HouseBounds.test();
        System.exit(Bounds.finish() == 0 ? 0 : 1);
    }
}
