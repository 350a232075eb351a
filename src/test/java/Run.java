import java.util.List;

/** A run of calls on a new object, told as texts. No more than 512 are made: what later ones answer is free. */
final class Run {
    static final int MOST_CALLS = 512;
    static final long NO = FrameCounty.NO;
    static final int NONE = FrameCounty.NONE, BAD = FrameCounty.BAD, STATE = FrameCounty.STATE, FULL = FrameCounty.FULL;

    private final Due due;
    private final FrameCounty county = new FrameCounty();
    private int calls;

    Run(Due due) {
        this.due = due;
    }

    long ask(String call) {
        calls++;
        if (calls > MOST_CALLS) {
            throw new IllegalStateException("too many calls: " + call);
        }
        return Call.of(call).on(county);
    }

    Run due(String call, long want) {
        due.is(call, ask(call), want);
        return this;
    }

    Run then(String... calls) {
        for (String call : calls) {
            ask(call);
        }
        return this;
    }

    Run then(List<String> calls) {
        calls.forEach(this::ask);
        return this;
    }

    Run times(int n, String call) {
        for (int i = 0; i < n; i++) {
            ask(call);
        }
        return this;
    }

    /** So many nights go by. */
    Run nights(int n) {
        for (int left = n; left > 0; left -= 60) {
            ask("pass(" + Math.min(60, left) + ")");
        }
        return this;
    }

    Run feed(String text) {
        return then(Tape.calls(text));
    }

    /** Feeds a text, reads it and makes it THE LIST. */
    Run list(String text) {
        feed(text);
        ask("force(" + ask("text()") + ")");
        return this;
    }

    int calls() {
        return calls;
    }
}
