import java.nio.charset.StandardCharsets;
import java.util.Arrays;

/** What the tests share: answers looked at against those that are due, and texts told to a net. */
final class Check {
    private static int wrong = 0;
    private static int looked = 0;

    private Check() {
    }

    static void due(String call, long got, long want) {
        looked++;
        if (got != want) {
            wrong++;
            System.out.println(call + " answered " + got + ", due is " + want);
        }
    }

    static void holds(String what, boolean truth) {
        due(what, truth ? 1 : 0, 1);
    }

    static void alike(String what, String got, String want) {
        looked++;
        if (!got.equals(want)) {
            wrong++;
            System.out.println(what + "\n  is  " + got + "\n  due " + want);
        }
    }

    /** Ends the test: exit code 1 if an answer wasn't as due. */
    static void end() {
        System.out.println(wrong == 0 ? looked + " answers are as due" : wrong + " answers are not as due");
        if (wrong != 0) {
            System.exit(1);
        }
    }

    static int feed(SpareRings x, byte[] bytes) {
        byte[] full = Arrays.copyOf(bytes, (bytes.length + 19) / 20 * 20);
        int answer = 0;
        for (int i = 0; i < full.length; i += 20) {
            int[] v = new int[5];
            for (int j = 0; j < 20; j++) {
                v[j / 4] = v[j / 4] << 8 | full[i + j] & 255;
            }
            answer = x.feed(v[0], v[1], v[2], v[3], v[4]);
        }
        return answer;
    }

    static int tell(SpareRings x, String text) {
        byte[] bytes = text.getBytes(StandardCharsets.ISO_8859_1);
        feed(x, bytes);
        return x.net(bytes.length);
    }

    static SpareRings told(String text) {
        SpareRings x = new SpareRings();
        holds("a net in: " + text, tell(x, text) > 0);
        return x;
    }

    /** A text is told to a new object and has a fault. */
    static void faulty(String text, int kind, int place) {
        SpareRings x = new SpareRings();
        due("net of: " + text, tell(x, text), -30 - kind);
        due("fault(0) of: " + text, x.fault(0), kind);
        due("fault(1) of: " + text, x.fault(1), place);
    }

    /** A text is told to a new object and has so many lines. */
    static SpareRings good(String text, int lines) {
        SpareRings x = new SpareRings();
        due("net of: " + text, tell(x, text), lines);
        due("fault(0) of: " + text, x.fault(0), 0);
        due("fault(1) of: " + text, x.fault(1), -1);
        due("count(8) of: " + text, x.count(8), lines);
        return x;
    }

    static void fill(SpareRings x, int tray, int sort, long... numbers) {
        due("numbers(" + tray + ", " + sort + ", " + numbers.length + ")", x.numbers(tray, sort, numbers.length), 0);
        for (int i = 0; i < numbers.length; i++) {
            due("write(" + tray + ", " + i + ", " + numbers[i] + ")", x.write(tray, i, numbers[i]), numbers[i]);
        }
    }
}
