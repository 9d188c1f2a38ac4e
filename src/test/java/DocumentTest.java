import java.io.IOException;
import java.nio.file.Files;
import java.nio.file.Path;

/**
 * Each sentence that a test stands for is in the document, and no sentence of the terms and the promises is
 * left without a test.
 */
public final class DocumentTest extends Sentences {
    private static final Path DOCUMENT = Path.of("..", "shared", "DOC.md");
    /** It tells in short what the terms and promises say. */
    private static final String SUMMARY = "Sums, differences, products, quotients and roots of reals of eighty bits: "
            + "the exact one rounded as the control says, or, where there is none, or it is too great, too small "
            + "or not just it, what is told and answered instead; by either view of what is infinite.";

    public static void main(String[] args) {
        new DocumentTest().runAlone();
    }

    @Override
    void run() {
        if (!Files.isReadable(DOCUMENT)) {
            System.out.println("there is no " + DOCUMENT + ": the tests' sentences are not looked up");
            return;
        }
        try {
            lookUp(new Document(DOCUMENT));
        } catch (IOException e) {
            same("reading " + DOCUMENT, e.toString(), "no exception");
        }
    }

    private void lookUp(Document document) {
        Sentences[] tests = {
            new FaceTest(), new CallsTest(), new RealTest(), new ControlWordTest(), new RoundTest(), new MakeTest(),
            new OperationTest(), new InvalidTest(), new NumbersTest(), new RegistersTest(), new NewObjectTest(),
            new ControlTest(), new SetTest(), new PartTest(), new OperateTest(), new ToldTest(), new ClearTest(),
        };
        document.quote(WHAT_IT_IS, SUMMARY);
        for (Sentences test : tests) {
            test.run();
            for (Sentence each : test.sentences()) {
                String what = test.getClass().getName() + ": [" + each.place() + "] \"" + each.words() + "\"";
                same(what, document.quote(each.place(), each.words()) ? "is there" : "is not there", "is there");
            }
        }
        for (String rest : document.notQuoted("Not promised")) {
            same("no test for: " + rest, 0, 1);
        }
    }
}
