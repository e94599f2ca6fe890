import java.nio.file.Path;
import java.util.function.IntUnaryOperator;

/** Compares answers at the boundaries that the document names, sentence by sentence. */
final class Bounds {
    static final int MIN = Integer.MIN_VALUE;
    static final int MAX = Integer.MAX_VALUE;

    private final Due due = new Due("BoundaryTest");
    private final Document document = new Document(Path.of("..", "shared", "DOC.md"));
    private String about = "";
    private int sentences = 0;

    /** From here on the answers are about these words of that part of the document. */
    void sentence(String part, String words) {
        about = part + ", \"" + words + "\": ";
        sentences++;
        if (document.isThere()) {
            due.is(about + "stands in the document", document.says(part, words) ? 1 : 0, 1);
        }
    }

    void is(String call, long got, long want) {
        due.is(about + call, got, want);
    }

    /** Every number from the lowest to the highest is not refused. */
    void inside(String call, int lowest, int highest, IntUnaryOperator ask) {
        for (int number = lowest; number <= highest; number++) {
            is(with(call, number) + " is refused", ask.applyAsInt(number) < 0 ? 1 : 0, 0);
        }
    }

    /** Numbers just outside, far outside, and such as would be inside if some of their bits were lost. */
    void outside(String call, int lowest, int highest, int want, IntUnaryOperator ask) {
        int[] numbers = {
            lowest - 1, lowest - 2, highest + 1, highest + 2, MIN, MIN + 1, MAX - 1, MAX, MIN + highest,
            lowest + 256, lowest - 256, highest + 256, lowest + 65536, highest - 65536, highest + (1 << 30)};
        for (int number : numbers) {
            if (number < lowest || number > highest) {
                is(with(call, number), ask.applyAsInt(number), want);
            }
        }
    }

    private static String with(String call, int number) {
        return call.replace("?", Integer.toString(number));
    }

    void end() {
        for (String missing : document.refusalsNotNamed()) {
            due.is(missing + " is named by a test", 0, 1);
        }
        System.out.println("BoundaryTest: " + sentences + " sentences"
            + (document.isThere() ? "" : ", not compared with the document, which was not found"));
        due.end();
    }
}
