import java.io.IOException;
import java.nio.file.Path;

/** Each sentence of the document, from its first line on, has a test of its own, and holds. */
public final class BoundsTest {
    public static void main(String[] args) throws IOException {
        Sentences sentences = new Sentences(Path.of("..", "shared", "DOC.md"));
        Bounds.readBy(sentences);
        Bounds[] all = {new PeopleBounds(), new TextBounds(), new WayBounds(), new BestBounds(), new ProofBounds(),
            new SeenBounds(), new EventBounds(), new TapeBounds(), new AnswerBounds(),
            new AboutBounds()};
        for (Bounds part : all) {
            part.run();
        }
        Bounds.end();
        for (String rest : sentences.untested()) {
            Bounds.lacks("no test is of " + rest);
        }
        if (sentences.promises() != 38) {
            Bounds.lacks(sentences.promises() + " promises");
        }
        System.out.println(Bounds.summary());
        if (Bounds.wrong() > 0) {
            System.exit(1);
        }
    }
}
