import java.lang.reflect.Method;
import java.util.ArrayList;
import java.util.List;
import java.util.Map;
import java.util.Random;
import java.util.TreeMap;

/** All promises: runs of 512 calls by fixed seeds, with good and with wild numbers, asked of the Model, too. */
public final class RandomRunsTest {
    private static final Due due = new Due("RandomRunsTest");
    private static final int RUNS = 300, CALLS = 512, TEXTS = 20000;
    private static final String[] CALLED = {"pass", "road", "road", "road", "far", "shop", "pays", "frame", "frame",
        "frameTold", "mend", "mend", "keeps", "earns", "feed", "text", "says", "says", "force", "raid", "raid", "raid",
        "pattern", "left", "form", "sends", "person", "seen", "canBe", "canBe", "suspects", "word", "word", "falseWords",
        "paid", "held", "held", "hangs", "hangs", "meeting", "meeting", "taker", "sworn", "began", "parties", "clause",
        "against", "offer", "offer", "row", "plan", "count", "sheet", "cell", "cell", "copy", "copy", "paysRow", "taken"};

    private final Random random;
    private final FrameCounty county = new FrameCounty();
    private final Model model = new Model();
    private final List<String> told = new ArrayList<>();
    private int left = CALLS;

    private RandomRunsTest(long seed) {
        random = new Random(seed);
    }

    public static void main(String[] args) throws Exception {
        Map<String, Method> real = methodsOf(FrameCounty.class);
        Map<String, Method> other = methodsOf(Model.class);
        for (String name : real.keySet()) {
            due.holds("the model has " + name, other.containsKey(name));
        }
        due.is("calls of the face", real.size(), 44);
        for (int seed = 0; seed < RUNS; seed++) {
            if (!new RandomRunsTest(seed).run(real, other)) {
                break;
            }
        }
        for (int seed = 0; seed < TEXTS; seed++) {
            readText(new Random(seed));
        }
        due.end();
    }

    /** A text on a new object: its fault or, as the list, what it says. */
    private static void readText(Random random) {
        String text = new TextMaker(random).text();
        ModelText model = new ModelText(text);
        FrameCounty x = new FrameCounty();
        x.shop(0, 50);
        x.frame(random.nextInt(6), 0, 10 + random.nextInt(51), random.nextInt(100));
        x.pass(1 + random.nextInt(60));
        x.person(0);
        x.raid(0, 0);
        x.word(0, 0, 0, random.nextInt(1000));
        x.word(0, 0, 0, random.nextInt(1000));
        Tape.feed(x, text);
        due.is("text of '" + text + "'", x.text(), model.fault < 0 ? 1 : -100 - model.fault);
        if (model.fault < 0 && x.force(1) == 0) {
            int week = x.count(0) / 7;
            int[] ofFrame = {(int) x.frameTold(0, 0), (int) x.frameTold(0, 2), week, (int) x.frameTold(0, 6), 0, 0};
            int[] ofPerson = {0, 0, week, 0, 2, (int) x.paid(0, 0, x.count(0))};
            due.is("price of '" + text + "'", x.says(0, 0), model.price(ofFrame));
            due.is("hold of '" + text + "'", x.says(1, 0), model.hold(ofPerson));
        }
    }

    private static Map<String, Method> methodsOf(Class<?> type) {
        Map<String, Method> all = new TreeMap<>();
        for (Method m : type.getDeclaredMethods()) {
            if (java.lang.reflect.Modifier.isPublic(m.getModifiers())) {
                all.put(m.getName(), m);
            }
        }
        return all;
    }

    private boolean run(Map<String, Method> real, Map<String, Method> other) throws Exception {
        while (left > 0) {
            String name = CALLED[random.nextInt(CALLED.length)];
            boolean same = true;
            if (name.equals("text")) {
                String text = new TextMaker(random).text();
                for (int from = 0; same && from < text.length(); from += 8) {
                    int n = Math.min(8, text.length() - from);
                    same = same(real.get("feed"), other.get("feed"), n, Tape.bytes(text, from, n));
                }
            }
            Method m = real.get(name);
            if (!same || !same(m, other.get(name), arguments(name))) {
                told.forEach(System.out::println);
                return false;
            }
        }
        return true;
    }

    private boolean same(Method real, Method other, Object... arguments) throws Exception {
        String call = real.getName() + java.util.Arrays.toString(arguments);
        long got = ((Number) real.invoke(county, arguments)).longValue();
        long want = ((Number) other.invoke(model, arguments)).longValue();
        told.add("  " + call + " " + got);
        due.is(call, got, want);
        left--;
        return got == want;
    }

    /** Mostly a number of those that are told, at times one beside them or a wild one. */
    private int pick(int least, int most) {
        if (random.nextInt(25) > 0 && most >= least) {
            return least + random.nextInt(most - least + 1);
        }
        int[] wild = {least, most, least - 1, most + 1, -1, 0, Integer.MIN_VALUE, Integer.MAX_VALUE, random.nextInt()};
        return wild[random.nextInt(wild.length)];
    }

    private int village() {
        return pick(0, 7);
    }

    private int past() {
        return pick(Math.max(0, model.night - 4), model.night);
    }

    private int person() {
        return pick(0, model.persons.size() - 1);
    }

    private int frame() {
        return pick(0, model.frames.size() - 1);
    }

    private int shop() {
        return pick(0, model.shops.size() - 1);
    }

    private Object[] arguments(String name) {
        switch (name) {
            case "pass": return new Object[] {pick(1, random.nextInt(10) == 0 ? 60 : 3)};
            case "road": return new Object[] {village(), village(), random.nextInt(5) == 0 ? 99 : pick(1, 9)};
            case "far": return new Object[] {village(), village(), pick(0, 399)};
            case "shop": return new Object[] {village(), pick(0, 99)};
            case "pays": return new Object[] {shop(), pick(0, 99)};
            case "frame": return new Object[] {pick(0, 5), shop(), pick(10, 60), pick(0, 99)};
            case "frameTold": return new Object[] {frame(), pick(0, 7)};
            case "mend": return new Object[] {frame(), pick(0, 2)};
            case "keeps": case "earns": return new Object[] {shop()};
            case "feed": return new Object[] {random.nextInt(8) == 0 ? pick(1, 8) : 0, random.nextLong()};
            case "force": return new Object[] {pick(0, model.texts.size() - 1)};
            case "says": return new Object[] {pick(0, 1), pick(0, model.persons.size() + 1)};
            case "raid": return new Object[] {frame(), pick(0, 11)};
            case "pattern": return new Object[] {pick(0, 1)};
            case "form": return new Object[] {pick(0, 1 + random.nextInt(200))};
            case "sends": return new Object[] {pick(0, 1499)};
            case "text": case "left": case "began": return new Object[0];
            default: return morePersonal(name);
        }
    }

    private Object[] morePersonal(String name) {
        switch (name) {
            case "person": return new Object[] {village()};
            case "seen": return new Object[] {person(), village(), past(), pick(0, 11)};
            case "canBe": return new Object[] {person(), village(), past() * 100 + pick(0, 11), past()};
            case "suspects": return new Object[] {pick(0, model.raids.size() - 1), past()};
            case "word": return new Object[] {pick(0, 5), person(), pick(0, model.raids.size() - 1), pick(0, 999)};
            case "falseWords": case "held": return new Object[] {past()};
            case "paid": return new Object[] {pick(0, 5), pick(0, 1), past()};
            case "hangs": return new Object[] {pick(0, 5), past()};
            case "meeting": return new Object[] {person(), person(), past()};
            case "taker": return new Object[] {person(), random.nextInt(4) == 0 ? -1 : past()};
            case "sworn": return new Object[] {pick(0, (1 << model.persons.size()) - 1), past()};
            default: return moreOfAll(name);
        }
    }

    private Object[] moreOfAll(String name) {
        int clauses = model.clauses.size();
        switch (name) {
            case "parties": return new Object[] {pick(0, 4), partiesHours(), pick(0, 399), pick(0, 1)};
            case "clause": return new Object[] {pick(-9, 9), pick(-9, 9)};
            case "against": return new Object[] {pick(0, clauses - 1), pick(0, clauses - 1)};
            case "offer": return new Object[] {pick(-20, 10), pick(-10, 10)};
            case "row": return new Object[] {row()};
            case "plan": return new Object[] {pick(1, 5), pick(-1, 4)};
            case "count": return new Object[] {pick(0, 15)};
            case "sheet": return new Object[] {pick(0, 3), random.nextInt(8) == 0 ? -1 : pick(0, 2), pick(0, 9)};
            case "cell": return new Object[] {pick(0, 3), pick(0, 9), random.nextBoolean() ? pick(0, 99) : random.nextInt()};
            case "copy": return new Object[] {pick(0, 3), pick(0, 5), pick(0, 3), pick(0, 5), pick(0, 4)};
            case "paysRow": return new Object[] {pick(0, 3), pick(0, 2), pick(0, 5), pick(0, 8)};
            default: return new Object[] {frame(), pick(0, 5)};
        }
    }

    private int partiesHours() {
        return random.nextInt(4) == 0 ? pick(98, 99) : pick(0, 25);
    }

    private long row() {
        if (random.nextInt(20) == 0) {
            return random.nextBoolean() ? random.nextLong() : random.nextBoolean() ? 9999999999L : 10000000000L;
        }
        long digits = 0;
        int most = random.nextBoolean() ? 99 : 9;
        for (int w = 0; w < 5; w++) {
            digits = digits * 100 + random.nextInt(most + 1);
        }
        return digits;
    }
}
