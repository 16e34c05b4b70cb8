import java.io.IOException;

/** Promises 1 to 41 and the terms: each sentence that names a boundary case, by its own words. */
public final class EdgesTest {
    public static void main(String[] args) throws IOException {
        Edges e = new Edges();
        new EdgeTerms(e).run();
        new EdgeText(e).run();
        new EdgeState(e).run();
        new EdgeWays(e).run();
        new EdgeRounds(e).run();
        new EdgeBuilders(e).run();
        new EdgeWalks(e).run();
        new EdgeSheets(e).run();
        e.finish();
    }
}
