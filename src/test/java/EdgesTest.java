import java.io.IOException;
import java.nio.file.Path;

/** Each sentence of the document's Terms and Promises, by its words, with the edges that it names. */
public final class EdgesTest {
    public static void main(String[] args) throws IOException {
        Said said = new Said(Path.of("../shared/DOC.md"));
        new EdgesOfQuarters(said).all();
        new EdgesOfLaws(said).all();
        new EdgesOfDays(said).all();
        new EdgesOfPennies(said).all();
        new EdgesOfChanges(said).all();
        new EdgesOfGlasses(said).all();
        new EdgesOfShelves(said).all();
        new EdgesOfAnswers(said).all();
        said.end();
    }
}
