import java.io.IOException;

/** For each sentence of the document that names a boundary case a test of its own. */
public final class EdgesTest {
    private EdgesTest() {
    }

    public static void main(String[] args) throws IOException {
        Due.readDocument();
        EdgesOfText.all();
        EdgesOfHands.all();
        EdgesOfWalks.all();
        EdgesOfFractions.all();
        EdgesOfKnowledge.all();
        Due.end();
    }
}
