import java.io.IOException;
import java.nio.file.Files;
import java.nio.file.Path;

/**
 * Each sentence of the document by a test of its own. A sentence that no test quotes is a fault, and so is a quotation
 * that the document doesn't have.
 */
public final class EdgesTest extends Edges {
    private final Edges[] parts = {new EdgesOfWhatItIs(), new EdgesOfTerms(), new EdgesOfPolicies(), new EdgesOfWorst(),
        new EdgesOfPerils(), new EdgesOfOneMore(), new EdgesOfStorms()};

    public static void main(String[] args) throws IOException {
        EdgesTest test = new EdgesTest();
        Path document = Path.of("../shared/DOC.md");
        test.quotes = new Quotes(Files.exists(document) ? Files.readString(document) : "");
        test.end();
    }

    @Override
    void all() {
        for (Edges part : parts) {
            part.quotes = quotes;
            part.all();
            asked += part.asked;
            wrong += part.wrong;
        }
        for (String words : quotes.unquoted()) complain("no test quotes " + words);
    }
}
