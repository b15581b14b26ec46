import java.lang.reflect.Method;
import java.util.Arrays;
import java.util.Comparator;
import java.util.Set;
import java.util.TreeSet;

/** Runs the tests that quote the document, and looks that each sentence with a boundary case has one. */
public final class BoundaryTest {
    private static final Class<?>[] PARTS = {OfficeTerms.class, RoundTerms.class, TextTerms.class, MailBounds.class,
        CarrierBounds.class, SnapshotBounds.class, TextBounds.class, LookingBounds.class, ForecastBounds.class};
    /** Sentences that only say what a call is for, or nothing about any call; they name no boundary case. */
    private static final String[] WITHOUT_BOUNDARY = {"What it is: Frames in which", "Terms: All numbers are whole.",
        "Errors: Ahead of the calls", "Promise 15: count: Returns a number.", "Promise 16: letter: Tells about",
        "Promise 17: frame: Tells about", "Promise 18: carrier: Tells about", "Not promised: "};

    private final Set<String> quoted = new TreeSet<>();
    private int tests;
    private int right;
    private int wrong;

    private BoundaryTest() {
    }

    public static void main(String[] args) throws Exception {
        BoundaryTest all = new BoundaryTest();
        Set<String> sentences = Document.sentences();
        for (Class<?> part : PARTS) {
            Method[] methods = part.getDeclaredMethods();
            Arrays.sort(methods, Comparator.comparing(Method::getName));
            for (Method method : methods) {
                if (method.isAnnotationPresent(Says.class)) {
                    all.run(method, sentences);
                }
            }
        }
        all.lookForGaps(sentences);
        System.out.println("BoundaryTest: " + all.tests + " tests for " + all.quoted.size() + " sentences, " + all.right
                + " answers as due, " + all.wrong + " not");
        if (all.wrong != 0) {
            System.exit(1);
        }
    }

    private void run(Method method, Set<String> sentences) throws Exception {
        Says says = method.getAnnotation(Says.class);
        String sentence = Document.named(says.under(), says.sentence());
        String name = method.getDeclaringClass().getName() + "." + method.getName() + " [" + sentence + "]";
        Check c = new Check(name);
        c.due("the quote stands in the document", sentences.contains(sentence) ? 1 : 0, 1);
        c.due("a promise is named", says.under().startsWith("Promise ") || says.promises().length > 0 ? 1 : 0, 1);
        int before = c.right() + c.wrong();
        method.invoke(null, c);
        c.due("something is looked at", c.right() + c.wrong() > before ? 1 : 0, 1);
        tests++;
        quoted.add(sentence);
        right += c.right();
        wrong += c.wrong();
    }

    private void lookForGaps(Set<String> sentences) {
        for (String sentence : sentences) {
            boolean plain = Arrays.stream(WITHOUT_BOUNDARY).anyMatch(sentence::startsWith);
            if (quoted.contains(sentence) == plain) {
                wrong++;
                System.out.println("BoundaryTest: a sentence " + (plain ? "without a boundary" : "without a test")
                        + ": " + sentence);
            }
        }
    }
}
