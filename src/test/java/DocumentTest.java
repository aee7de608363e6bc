import java.io.IOException;
import java.nio.file.Path;

/**
 * That each sentence of the document's Terms and promises is named by a test, word by word. The tests
 * run here once more, to see what they name.
 */
final class DocumentTest {
    public static void main(String[] args) throws IOException {
        SchemaTest.all();
        TextTest.all();
        ReadTest.all();
        MatchTest.all();
        MessageTest.all();
        RuleTest.all();
        WriteTest.all();
        RefusalTest.all();
        Document document = new Document(Path.of("..", "shared", "DOC.md"));
        for (String[] sentence : Check.NAMED) {
            Check.due(sentence[0] + " says " + sentence[1], "" + document.name(sentence[0], sentence[1]), "true");
        }
        int sections = 0;
        for (String section : document.sections()) {
            sections++;
            Check.due("what no test names in " + section, document.unnamed(section), "");
        }
        Check.due("sections: What it is, Terms and the promises 1 to 27", sections, 29);
        Check.end();
    }
}
