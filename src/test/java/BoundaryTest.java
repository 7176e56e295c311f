/** The document sentence by sentence: what stands just inside and just outside of each boundary that it names. */
public final class BoundaryTest {
    public static void main(String[] args) throws Exception {
        Held held = new Held();
        TextBounds.run(held);
        HutBounds.run(held);
        SeekBounds.run(held);
        StageBounds.run(held);
        LogBounds.run(held);
        HandBounds.run(held);
        held.holdsAll();
        held.end();
    }
}
