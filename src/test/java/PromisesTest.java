import java.lang.reflect.Method;
import java.nio.file.Files;
import java.nio.file.Path;
import java.util.Arrays;
import java.util.Comparator;

/**
 * Runs the tests in promises/: each stands in the class of its promise and quotes the words that it holds to.
 * The words must stand in the document, and no word of its Terms and promises may be left without a test.
 */
public final class PromisesTest {
    private PromisesTest() {
    }

    private static void run(Words words, int promise, Method test) throws Exception {
        Due.where = test.getDeclaringClass().getName() + "." + test.getName() + ": ";
        for (String quote : test.getAnnotation(Says.class).value()) {
            Due.so("once in the document: " + quote, words.quotes(promise, quote));
        }
        test.setAccessible(true);
        test.invoke(null);
        Due.where = "";
    }

    public static void main(String[] args) throws Exception {
        Words words = new Words(Files.readString(Path.of(args[0])));
        for (int promise = 1; promise <= Words.PROMISES; promise++) {
            Method[] tests = Class.forName(String.format("Promise%02d", promise)).getDeclaredMethods();
            Arrays.sort(tests, Comparator.comparing(Method::getName));
            for (Method test : tests) {
                if (test.isAnnotationPresent(Says.class)) {
                    run(words, promise, test);
                }
            }
        }
        for (String rest : words.unquoted()) {
            Due.so("has a test: " + rest, false);
        }
        Due.finish();
    }
}
