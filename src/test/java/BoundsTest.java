import java.nio.file.Files;
import java.nio.file.Path;

/** Every sentence of the document that names a bound, with a test of its own; and that none was left out. */
public final class BoundsTest {
    public static void main(String[] args) throws Exception {
        Sentences s = new Sentences();
        TermsBounds.all(s);
        TextBounds.all(s);
        LawBounds.all(s);
        FaultBounds.all(s);
        OrderBounds.all(s);
        ScalesBounds.all(s);
        StormBounds.all(s);
        TapePromises.all(s);
        DeedPromises.all(s);
        ViewPromises.all(s);
        ImagePromises.all(s);
        s.untested().forEach(sentence -> s.due("a sentence without a test: " + sentence, 0, 1));
        Path main = Path.of(args.length > 0 ? args[0] : "src/main/java/VeilOfStones.java").toAbsolutePath();
        Path path = main.resolve("../../../../../shared/DOC.md").normalize();
        if (Files.exists(path)) {
            against(s, new Document(path));
        } else {
            System.out.println("not compared with the document: there is no " + path);
        }
        s.end();
    }

    private static void against(Sentences s, Document document) {
        for (Sentences.Sentence sentence : s.quoted().toArray(new Sentences.Sentence[0])) {
            if (!document.quote(sentence.part(), sentence.words())) {
                s.due("the document has no " + sentence, 0, 1);
            }
        }
        document.rest().forEach(words -> s.due("no test quotes " + words, 0, 1));
    }
}
