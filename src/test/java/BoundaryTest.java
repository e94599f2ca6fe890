/** The boundary cases of the document: each test is for one sentence, which it names. */
public final class BoundaryTest {
    public static void main(String[] args) {
        Bounds bounds = new Bounds();
        new TermsBounds(bounds).run();
        new CostBounds(bounds).run();
        new RefusalBounds(bounds).run();
        new StateBounds(bounds).run();
        new MeantBounds(bounds).run();
        new IntervalBounds(bounds).run();
        new ShadeBounds(bounds).run();
        bounds.end();
    }
}
