import java.lang.reflect.Method;
import java.util.List;

/** Each word of the promises, and of the Terms ahead of them, has to stand in the Says of a test of its edges. */
public final class CoverTest {
    private static final List<Class<?>> TESTS = List.of(AheadEdgesTest.class, StreetEdgesTest.class, DaysEdgesTest.class,
        DaysAheadEdgesTest.class, TalkingEdgesTest.class, ShopsEdgesTest.class, KeptEdgesTest.class);

    public static void main(String[] args) throws Exception {
        Document document = new Document();
        boolean whole = true;
        int sentences = 0;
        for (int promise = 0; promise <= Document.PROMISES; promise++) {
            String text = document.textOf(promise);
            String left = text;
            for (Class<?> tests : TESTS) {
                for (Method method : Sentences.of(tests)) {
                    Says says = method.getAnnotation(Says.class);
                    if (says.promise() == promise) {
                        left = without(left, text, says.words());
                        sentences++;
                    }
                }
            }
            if (left.matches(".*[a-zA-Z0-9].*")) {
                whole = false;
                System.out.println("CoverTest: of promise " + promise + " no test says: " + left.replaceAll("_+", "__"));
            }
        }
        System.out.println("CoverTest: " + sentences + " sentences");
        if (!whole) {
            System.exit(1);
        }
    }

    private static String without(String left, String text, String words) {
        int at = text.indexOf(words);
        return at < 0 ? left : left.substring(0, at) + "_".repeat(words.length()) + left.substring(at + words.length());
    }
}
