import java.io.IOException;

/** Promises 1 to 28: each boundary case that a sentence of the document names, and that each sentence has a case. */
public final class EdgesTest {
    private EdgesTest() {
    }

    public static void main(String[] args) throws IOException {
        Edges edges = new Edges();
        new EdgesOfHerds(edges).all();
        new EdgesOfSeasons(edges).all();
        new EdgesOfBringing(edges).all();
        new EdgesOfCounts(edges).all();
        new EdgesOfImages(edges).all();
        new EdgesOfRefusals(edges).all();
        edges.end();
    }
}
