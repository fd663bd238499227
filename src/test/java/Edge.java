import java.io.IOException;
import java.nio.file.Files;
import java.nio.file.Path;
import java.util.LinkedHashMap;
import java.util.Map;
import java.util.TreeSet;
import java.util.function.IntUnaryOperator;

/**
 * Tests by the document's own sentences: a test names the words that it is about, and at the end
 * no word of the Terms and of the promises may be without a test.
 */
final class Edge {
    static final String WHAT = "What it is", TERMS = "Terms";
    private static final Path DOCUMENT = Path.of("../shared/DOC.md");
    private static final Map<String, String> SECTIONS = new LinkedHashMap<>();
    private static final Map<String, boolean[]> TESTED = new LinkedHashMap<>();
    private static String sentence = "";
    private static int lookedAt = 1;

    private Edge() {
    }

    static void readDocument() throws IOException {
        String heading = "";
        for (String line : Files.readAllLines(DOCUMENT)) {
            if (line.startsWith("## ")) {
                heading = line.substring(3).replaceAll(":.*", "");
            } else if (!line.startsWith("Ahead of the calls") && !line.startsWith("```")) {
                // The signature ahead of a promise and the marks between the parts are no sentences.
                String words = line.replaceAll("^`[^`]*`: ", "").replaceAll("======== \\d ", "");
                SECTIONS.merge(heading, words.trim() + "\n", String::concat);
            }
        }
        SECTIONS.forEach((name, text) -> TESTED.put(name, new boolean[text.length()]));
    }

    static void of(int promise, String words) {
        of("Promise " + promise, words);
    }

    /** Begins the test of a sentence. */
    static void of(String section, String words) {
        endOfSentence();
        sentence = section + " \"" + words + "\"";
        lookedAt = 0;
        String text = SECTIONS.getOrDefault(section, "");
        int at = text.indexOf(words);
        Due.holds("the document says it, and once: " + sentence, at >= 0 && at == text.lastIndexOf(words));
        for (int i = at; at >= 0 && i < at + words.length(); i++) {
            TESTED.get(section)[i] = true;
        }
    }

    private static void endOfSentence() {
        Due.holds("it is tested: " + sentence, lookedAt > 0);
    }

    static void noneIsLeftOut() {
        endOfSentence();
        Due.is("sections of the document", SECTIONS.keySet().stream().filter(Edge::isToBeTested).count(), 31);
        SECTIONS.forEach((name, text) -> {
            if (isToBeTested(name)) {
                noneIsLeftOut(name, text);
            }
        });
    }

    private static boolean isToBeTested(String section) {
        return section.equals(TERMS) || section.startsWith("Promise ");
    }

    private static void noneIsLeftOut(String name, String text) {
        StringBuilder left = new StringBuilder();
        for (int i = 0; i < text.length(); i++) {
            left.append(TESTED.get(name)[i] ? ' ' : text.charAt(i));
        }
        String words = left.toString().replaceAll("[^A-Za-z0-9]+", " ").trim();
        Due.holds(name + " has words without a test: " + words, words.isEmpty());
    }

    static void is(String call, long got, long want) {
        lookedAt++;
        Due.is(sentence + ": " + call, got, want);
    }

    static void holds(String what, boolean does) {
        lookedAt++;
        Due.holds(sentence + ": " + what, does);
    }

    /** The call with each of the numbers is refused, and changes nothing. */
    static void refuses(String call, WorkOrders x, int due, IntUnaryOperator asked, int... numbers) {
        long before = x.digest();
        for (int v : numbers) {
            is(call + " with " + v, asked.applyAsInt(v), due);
            is(call + " with " + v + ", then digest()", x.digest(), before);
        }
    }

    /** Numbers beside those from least to most: the next ones, far ones, and ones that look alike in fewer bits. */
    static int[] beside(int least, int most) {
        TreeSet<Integer> numbers = new TreeSet<>();
        for (int v : new int[] {-20, -10, -4, -3, -2, -1, least - 1, most + 1, least - 2, most + 2, least + 32,
            most - 32, least + 256, least - 256, most + 65536, Integer.MIN_VALUE, Integer.MIN_VALUE + least,
            Integer.MAX_VALUE, Integer.MAX_VALUE - 1}) {
            if (v < least || v > most) {
                numbers.add(v);
            }
        }
        return numbers.stream().mapToInt(Integer::intValue).toArray();
    }

    /** A call on the way to a test must not be refused, or the test is about something else. */
    static void taken(int answer) {
        Due.holds("a call ahead of " + sentence + " is taken: " + answer, answer >= 0);
    }

    static WorkOrders of(int... lengths) {
        WorkOrders x = new WorkOrders();
        for (int length : lengths) {
            taken(x.work(length));
        }
        return x;
    }

    static WorkOrders eight(int length) {
        return of(length, length, length, length, length, length, length, length);
    }

    static void putAll(WorkOrders x, int what, int... values) {
        for (int i = 0; i < values.length; i++) {
            taken(x.put(i, what, values[i]));
        }
    }

    /** What an ORDER makes, told and judged. */
    static int judged(WorkOrders x, int aim, int... order) {
        x.anew();
        for (int work : order) {
            taken(x.next(work));
        }
        return x.judge(aim);
    }

    /** The answers of a call for NONE and for 0, 1, .. on. */
    static void row(String call, IntUnaryOperator asked, int makes, int... order) {
        is(call + "(NONE)", asked.applyAsInt(WorkOrders.NONE), makes);
        for (int i = 0; i < order.length; i++) {
            is(call + "(" + i + ")", asked.applyAsInt(i), order[i]);
        }
    }
}
