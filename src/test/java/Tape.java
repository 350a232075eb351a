import java.util.ArrayList;
import java.util.List;

/** Feeds texts to the tape. */
final class Tape {
    private Tape() {
    }

    /** Feeds all characters, eight at a time; the last answer. */
    static int feed(FrameCounty x, String text) {
        int last = x.count(11);
        for (int from = 0; from < text.length(); from += 8) {
            int n = Math.min(8, text.length() - from);
            last = x.feed(n, bytes(text, from, n));
        }
        return last;
    }

    /** The calls that feed all characters, eight at a time. */
    static List<String> calls(String text) {
        List<String> calls = new ArrayList<>();
        for (int from = 0; from < text.length(); from += 8) {
            int n = Math.min(8, text.length() - from);
            calls.add("feed(" + n + ", " + bytes(text, from, n) + ")");
        }
        return calls;
    }

    static long bytes(String text, int from, int n) {
        long all = 0;
        for (int i = n - 1; i >= 0; i--) {
            all = all << 8 | text.charAt(from + i) & 255;
        }
        return all;
    }

    /** What text() answers of these characters on a new object. */
    static int textOf(String text) {
        FrameCounty x = new FrameCounty();
        feed(x, text);
        return x.text();
    }
}
