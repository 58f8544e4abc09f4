import java.io.IOException;

/** Every sentence of the document that names a boundary case. Started in the project's folder. */
public final class BoundsTest {
    public static void main(String[] args) throws IOException {
        Bounds b = new Bounds(Doc.read());
        TextBounds.all(b);
        TokenBounds.all(b);
        NetBounds.all(b);
        FoxBounds.all(b);
        WaysBounds.all(b);
        DoubtBounds.all(b);
        CastsBounds.all(b);
        ChaseBounds.all(b);
        HolesBounds.all(b);
        SeasonBounds.all(b);
        KeptBounds.all(b);
        SheetBounds.all(b);
        RefusalBounds.all(b);
        b.done();
    }
}
