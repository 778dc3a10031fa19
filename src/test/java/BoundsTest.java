import java.io.IOException;

/** Each sentence of the document that names a boundary: the case just within it, and the one just beyond. */
public final class BoundsTest {
    public static void main(String[] args) throws IOException {
        Bounds b = new Bounds();
        SkyBounds.run(b);
        RuleBounds.run(b);
        DayBounds.run(b);
        AskBounds.run(b);
        RivalBounds.run(b);
        KeepBounds.run(b);
        b.close();
    }
}
