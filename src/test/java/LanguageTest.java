import java.io.IOException;
import java.nio.file.Path;

/** The program keeps to ../shared/LANGUAGE.md. */
public final class LanguageTest {
    private LanguageTest() {
    }

    public static void main(String[] args) throws IOException {
        if (ModuleLayer.boot().findModule("jdk.compiler").isPresent()) {
            Language.compare(Path.of("src/main/java/RectilinearRoof.java"));
        } else {
            System.out.println("this java has no compiler in it: the syntax tree is not looked at");
        }
        Check.finish("LanguageTest");
    }
}
