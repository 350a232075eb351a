import java.util.ArrayDeque;
import java.util.ArrayList;
import java.util.Comparator;
import java.util.Deque;
import java.util.List;
import java.util.TreeSet;

/**
 * The same county written otherwise, with lists, real arrays, casts and exceptions, and everything counted
 * anew at each call: RandomRunsTest asks both and compares.
 */
final class Model {
    static final int NONE = -1, BAD = -2, STATE = -3, FULL = -4;
    static final long NO = -(1L << 62);

    /** Frames by kinds: what is under another kind is cast to it. */
    static class Plain {
        int kind, shop, width, rent, how;

        int makes() {
            return width / 10;
        }

        int rentPaid() {
            return rent;
        }
    }

    static class Wide extends Plain {
        @Override int makes() {
            return super.makes() + 3;
        }
    }

    static class Narrow extends Plain {
        @Override int makes() {
            return super.makes() - 1;
        }

        @Override int rentPaid() {
            return super.rentPaid() / 2;
        }
    }

    static final class Cut extends Wide {
        @Override int makes() {
            return 2 * super.makes();
        }

        @Override int rentPaid() {
            return super.rentPaid() + 2;
        }
    }

    static final class Lace extends Narrow {
        @Override int makes() {
            return super.makes() / 2;
        }
    }

    static final class Power extends Wide {
        @Override int makes() {
            return width / 10 * 4;
        }

        @Override int rentPaid() {
            return rent + width;
        }
    }

    record Raid(int frame, int night, int hour) {}

    record Seen(int person, int village, int night, int hour, int known) {}

    record Word(int informer, int person, int raid, int paid, int known) {}

    record Meeting(int a, int b, int night) {}

    int night, list;
    final int[][] roads = new int[8][8];
    final List<int[]> shops = new ArrayList<>();
    final List<Plain> frames = new ArrayList<>();
    final List<Raid> raids = new ArrayList<>();
    final List<Integer> persons = new ArrayList<>();
    final List<Seen> seen = new ArrayList<>();
    final List<Word> words = new ArrayList<>();
    final List<Meeting> meetings = new ArrayList<>();
    final int[] takers = new int[12];
    final List<int[]> clauses = new ArrayList<>();
    final boolean[][] apart = new boolean[8][8];
    final List<int[]> rows = new ArrayList<>();
    final List<ModelText> texts = new ArrayList<>();
    final StringBuilder tape = new StringBuilder();
    final Object[] sheets = new Object[4];

    Model() {
        for (int[] row : roads) {
            java.util.Arrays.fill(row, 99);
        }
        java.util.Arrays.fill(takers, -1);
        texts.add(new ModelText("price 10 + width ; hold 1 < words ;"));
    }

    static boolean in(long n, long least, long most) {
        return least <= n && n <= most;
    }

    boolean night(int n) {
        return in(n, 0, 399);
    }

    boolean past(int n) {
        return in(n, 0, night);
    }

    static boolean of(int n, List<?> things) {
        return in(n, 0, things.size() - 1);
    }

    public int pass(int n) {
        if (!in(n, 1, 60)) return BAD;
        if (night + n > 399) return FULL;
        return night += n;
    }

    public int road(int a, int b, int hours) {
        if (!in(a, 0, 7) || !in(b, 0, 7) || a == b || !in(hours, 1, 9) && hours != 99) return BAD;
        int was = roads[a][b];
        roads[a][b] = roads[b][a] = hours;
        return was;
    }

    public int far(int a, int b, int night) {
        return in(a, 0, 7) && in(b, 0, 7) && night(night) ? walk(a, b, night, 1 << a) : BAD;
    }

    /** By all ways that come to no village twice. */
    int walk(int a, int b, int night, int been) {
        if (a == b) return 0;
        int least = 99;
        for (int c = 0; c < 8; c++) {
            if (roads[a][c] != 99 && (been >> c & 1) == 0) {
                int longer = night % 30 >= 8 && night % 30 <= 22 ? 0 : 1;
                least = Math.min(least, roads[a][c] + longer + walk(c, b, night, been | 1 << c));
            }
        }
        return least;
    }

    public int shop(int village, int pays) {
        if (!in(village, 0, 7) || !in(pays, 0, 99)) return BAD;
        if (shops.size() == 8) return FULL;
        shops.add(new int[] {village, pays});
        return shops.size() - 1;
    }

    public int pays(int shop, int n) {
        if (!of(shop, shops) || !in(n, 0, 99)) return BAD;
        int were = shops.get(shop)[1];
        shops.get(shop)[1] = n;
        return were;
    }

    public int frame(int kind, int shop, int width, int rent) {
        if (!in(kind, 0, 5) || !of(shop, shops) || !in(width, 10, 60) || !in(rent, 0, 99)) return BAD;
        if (frames.size() == 20) return FULL;
        Plain f = switch (kind) {
            case 0 -> new Plain();
            case 1 -> new Wide();
            case 2 -> new Narrow();
            case 3 -> new Cut();
            case 4 -> new Lace();
            default -> new Power();
        };
        f.kind = kind;
        f.shop = shop;
        f.width = width;
        f.rent = rent;
        frames.add(f);
        return frames.size() - 1;
    }

    long earned(Plain f) {
        return (f.how == 0 ? (long) f.makes() * shops.get(f.shop)[1] : 0) - f.rentPaid();
    }

    public long frameTold(int frame, int what) {
        if (!of(frame, frames) || !in(what, 0, 7)) return NO;
        Plain f = frames.get(frame);
        return new long[] {f.kind, f.shop, f.width, f.rent, f.how, f.makes(), f.rentPaid(), earned(f)}[what];
    }

    public int mend(int frame, int how) {
        if (!of(frame, frames) || !in(how, 0, 2)) return BAD;
        Plain f = frames.get(frame);
        if (how == 0 && f.how == 1) f.how = 0;
        else if (how == 1 && f.how == 2) f.how = 0;
        else if (how == 2 && f.how == 0) f.how = 2;
        else return STATE;
        return 1;
    }

    public int keeps(int shop) {
        if (!of(shop, shops)) return BAD;
        boolean all = frames.stream().filter(f -> f.shop == shop && f.how == 0).allMatch(f -> shops.get(shop)[1] >= price(f));
        return all ? 1 : 0;
    }

    public long earns(int shop) {
        return of(shop, shops) ? frames.stream().filter(f -> f.shop == shop).mapToLong(this::earned).sum() : NO;
    }

    int price(Plain f) {
        return texts.get(list).price(new int[] {f.kind, f.width, night / 7, f.rentPaid(), 0, 0});
    }

    int hold(int person, int known, int without) {
        int n = 0;
        int paid = 0;
        for (Word w : words) {
            if (w.person == person && w.known <= known && w.informer != without && !isFalse(w, known)) {
                n++;
                paid += w.paid;
            }
        }
        return texts.get(list).hold(new int[] {0, 0, night / 7, 0, n, paid});
    }

    public int feed(int n, long bytes) {
        if (!in(n, 1, 8)) return BAD;
        if (tape.length() + n > 160) return FULL;
        for (long rest = bytes; n > 0; n--, rest >>>= 8) {
            tape.append((char) (rest & 255));
        }
        return tape.length();
    }

    public int text() {
        if (texts.size() == 6) return FULL;
        ModelText text = new ModelText(tape.toString());
        tape.setLength(0);
        if (text.fault >= 0) return -100 - text.fault;
        texts.add(text);
        return texts.size() - 1;
    }

    public int force(int text) {
        if (!of(text, texts)) return BAD;
        int was = list;
        list = text;
        return was;
    }

    public long says(int part, int number) {
        if (part == 0 && of(number, frames)) return price(frames.get(number));
        if (part == 1 && of(number, persons)) return hold(number, night, NONE);
        return NO;
    }

    public int raid(int frame, int hour) {
        if (!of(frame, frames) || !in(hour, 0, 11)) return BAD;
        if (frames.get(frame).how != 0) return STATE;
        if (raids.size() == 30) return FULL;
        frames.get(frame).how = 1;
        raids.add(new Raid(frame, night, hour));
        return raids.size() - 1;
    }

    boolean struck(Plain f) {
        boolean in = false;
        for (Raid r : raids) {
            in |= frames.get(r.frame) == f && r.night == night;
        }
        return in && f.how == 1;
    }

    boolean hit(int shop) {
        return frames.stream().anyMatch(f -> f.shop == shop && struck(f));
    }

    boolean spared(Plain f) {
        return f.how == 0 && hit(f.shop);
    }

    public int pattern(int what) {
        if (what != 0 && what != 1) return BAD;
        int set = 0;
        for (int i = frames.size() - 1; i >= 0; i--) {
            set = 2 * set + ((what == 0 ? struck(frames.get(i)) : spared(frames.get(i))) ? 1 : 0);
        }
        return set;
    }

    boolean fits(int form, Plain f) {
        int[] shop = shops.get(f.shop);
        int value = new int[] {f.width, f.rent, f.kind, shop[1], shop[0]}[form / 300];
        int number = form % 100;
        return new boolean[] {value < number, value == number, value > number}[form / 100 % 3];
    }

    List<Integer> leftForms() {
        List<Integer> left = new ArrayList<>();
        List<Plain> struck = frames.stream().filter(this::struck).toList();
        List<Plain> spared = frames.stream().filter(this::spared).toList();
        for (int form = 0; form < 1500 && !struck.isEmpty(); form++) {
            int f = form;
            if (struck.stream().allMatch(s -> fits(f, s)) && spared.stream().noneMatch(s -> fits(f, s))) left.add(form);
        }
        return left;
    }

    public int left() {
        return leftForms().size();
    }

    public int form(int i) {
        List<Integer> left = leftForms();
        return of(i, left) ? left.get(i) : NONE;
    }

    public int sends(int form) {
        if (!in(form, 0, 1499)) return BAD;
        int best = NONE;
        long most = 0;
        for (int s = shops.size() - 1; s >= 0; s--) {
            int shop = s;
            long n = frames.stream().filter(f -> f.shop == shop && f.how == 0 && fits(form, f)).count();
            if (n > 0 && n >= most && !hit(s)) {
                best = s;
                most = n;
            }
        }
        return best;
    }

    public int person(int home) {
        if (!in(home, 0, 7)) return BAD;
        if (persons.size() == 12) return FULL;
        persons.add(home);
        return persons.size() - 1;
    }

    public int seen(int person, int village, int night, int hour) {
        if (!of(person, persons) || !in(village, 0, 7) || !past(night) || !in(hour, 0, 11)) return BAD;
        if (seen.size() == 40) return FULL;
        seen.add(new Seen(person, village, night, hour, this.night));
        return seen.size();
    }

    boolean can(int person, int village, int in, int hour, int known) {
        List<Seen> all = new ArrayList<>(seen);
        all.add(new Seen(person, persons.get(person), in, 0, 0));
        return all.stream().filter(s -> s.person == person && s.night == in && s.known <= known)
            .allMatch(s -> Math.abs(s.hour - hour) >= far(village, s.village, in));
    }

    public int canBe(int person, int village, int when, int known) {
        if (!of(person, persons) || !in(village, 0, 7) || !past(known)) return BAD;
        if (when < 0 || !night(when / 100) || when % 100 > 11) return BAD;
        return can(person, village, when / 100, when % 100, known) ? 1 : 0;
    }

    boolean couldRaid(int person, int raid, int known) {
        Raid r = raids.get(raid);
        return can(person, shops.get(frames.get(r.frame).shop)[0], r.night, r.hour, known);
    }

    boolean isFalse(Word w, int known) {
        return !couldRaid(w.person, w.raid, known);
    }

    public int suspects(int raid, int known) {
        if (!of(raid, raids) || !past(known)) return BAD;
        int set = 0;
        for (int p = 0; p < persons.size(); p++) {
            if (couldRaid(p, raid, known)) set += 1 << p;
        }
        return set;
    }

    public int word(int informer, int person, int raid, int paid) {
        if (!in(informer, 0, 5) || !of(person, persons) || !of(raid, raids) || !in(paid, 0, 999)) return BAD;
        if (words.size() == 24) return FULL;
        words.add(new Word(informer, person, raid, paid, night));
        return words.size() - 1;
    }

    public int falseWords(int known) {
        if (!past(known)) return BAD;
        int set = 0;
        for (int w = 0; w < words.size(); w++) {
            if (words.get(w).known <= known && isFalse(words.get(w), known)) set += 1 << w;
        }
        return set;
    }

    public long paid(int informer, int what, int known) {
        if (!in(informer, 0, 5) || !in(what, 0, 1) || !past(known)) return NO;
        return words.stream().filter(w -> w.informer == informer && w.known <= known)
            .filter(w -> what == 0 || isFalse(w, known)).mapToLong(Word::paid).sum();
    }

    int heldBut(int known, int without) {
        int set = 0;
        for (int p = 0; p < persons.size(); p++) {
            if (hold(p, known, without) != 0) set += 1 << p;
        }
        return set;
    }

    public int held(int known) {
        return past(known) ? heldBut(known, NONE) : BAD;
    }

    public int hangs(int informer, int known) {
        if (!in(informer, 0, 5) || !past(known)) return BAD;
        int both = heldBut(known, NONE) & heldBut(known, informer);
        return heldBut(known, NONE) ^ both;
    }

    public int meeting(int a, int b, int night) {
        if (!of(a, persons) || !of(b, persons) || a == b || !past(night)) return BAD;
        if (meetings.size() == 40) return FULL;
        meetings.add(new Meeting(a, b, night));
        return meetings.size();
    }

    public int taker(int person, int night) {
        if (!of(person, persons) || !in(night, -1, 399)) return -5;
        int was = takers[person];
        takers[person] = night;
        return was;
    }

    int swear(int first, int by) {
        TreeSet<Integer> sworn = new TreeSet<>();
        for (int p = 0; p < 12; p++) {
            if ((first >> p & 1) == 1) sworn.add(p);
        }
        for (int n = 0; n <= by; n++) {
            for (Meeting m : meetings) {
                if (m.night == n && (sworn.contains(m.a) || sworn.contains(m.b))) {
                    sworn.add(m.a);
                    sworn.add(m.b);
                }
            }
        }
        return sworn.stream().mapToInt(p -> 1 << p).sum();
    }

    public int sworn(int first, int night) {
        return in(first, 0, (1 << persons.size()) - 1) && night(night) ? swear(first, night) : BAD;
    }

    public int began() {
        for (int n = 0; n <= 12; n++) {
            for (int set = 0; set < 1 << persons.size(); set++) {
                if (Integer.bitCount(set) == n && allTaken(set)) return set;
            }
        }
        return BAD;
    }

    boolean allTaken(int set) {
        for (int p = 0; p < persons.size(); p++) {
            if (takers[p] >= 0 && (swear(set, Math.min(takers[p], night)) >> p & 1) == 0) return false;
        }
        return true;
    }

    public int parties(int n, int hours, int night, int what) {
        if (!in(n, 0, 8) || !in(hours, 0, 99) || !night(night) || !in(what, 0, 1)) return BAD;
        int[][] far = new int[8][8];
        for (int a = 0; a < 8; a++) {
            for (int b = 0; b < 8; b++) {
                far[a][b] = walk(a, b, night, 1 << a);
            }
        }
        List<int[]> all = new ArrayList<>();
        for (int set = 0; set < 256; set++) {
            int reached = 0;
            for (int[] shop : shops) {
                boolean near = false;
                for (int v = 0; v < 8; v++) {
                    near |= (set >> v & 1) == 1 && far[shop[0]][v] < 99 && far[shop[0]][v] <= hours;
                }
                if (near) reached++;
            }
            if (Integer.bitCount(set) == n) all.add(new int[] {set, reached});
        }
        all.sort(Comparator.comparingInt((int[] s) -> -s[1]).thenComparingInt(s -> s[0]));
        return all.get(0)[what];
    }

    public int clause(int owners, int men) {
        if (!in(owners, -99, 99) || !in(men, -99, 99)) return BAD;
        if (clauses.size() == 8) return FULL;
        clauses.add(new int[] {owners, men});
        return clauses.size() - 1;
    }

    public int against(int a, int b) {
        if (!of(a, clauses) || !of(b, clauses) || a == b) return BAD;
        boolean were = apart[a][b];
        apart[a][b] = apart[b][a] = true;
        return were ? 0 : 1;
    }

    public int offer(int owners, int men) {
        if (!in(owners, -999, 999) || !in(men, -999, 999)) return BAD;
        List<int[]> all = new ArrayList<>();
        for (int set = 0; set < 1 << clauses.size(); set++) {
            int[] worth = {0, 0};
            boolean together = true;
            for (int a = 0; a < clauses.size(); a++) {
                if ((set >> a & 1) == 0) continue;
                worth[0] += clauses.get(a)[0];
                worth[1] += clauses.get(a)[1];
                for (int b = 0; b < a; b++) {
                    together &= (set >> b & 1) == 0 || !apart[a][b];
                }
            }
            if (together && worth[0] >= owners && worth[1] >= men) {
                all.add(new int[] {-worth[1], -worth[0], Integer.bitCount(set), set});
            }
        }
        all.sort(java.util.Arrays::compare);
        return all.isEmpty() ? NONE : all.get(0)[3];
    }

    public int row(long raids) {
        if (!in(raids, 0, 9999999999L)) return BAD;
        if (rows.size() == 6) return FULL;
        String digits = String.format("%010d", raids);
        int[] row = new int[5];
        for (int w = 0; w < 5; w++) {
            row[w] = Integer.parseInt(digits.substring(8 - 2 * w, 10 - 2 * w));
        }
        rows.add(row);
        return rows.size() - 1;
    }

    public int plan(int n, int i) {
        if (!in(n, 1, 5)) return BAD;
        if (!in(i, -1, n - 1)) return NONE;
        List<int[]> all = new ArrayList<>();
        plans(n, new ArrayDeque<>(), all);
        all.sort(java.util.Arrays::compare);
        return i < 0 ? all.get(0)[0] : all.get(0)[2 + i];
    }

    void plans(int n, Deque<Integer> done, List<int[]> all) {
        if (done.size() < n) {
            for (int d = 0; d < 3; d++) {
                done.addLast(d);
                plans(n, done, all);
                done.removeLast();
            }
            return;
        }
        int[] plan = new int[2 + n];
        int w = 0;
        int ahead = 0;
        int[] sums = new int[rows.size()];
        for (int d : done) {
            for (int r = 0; r < rows.size(); r++) {
                int raided = rows.get(r)[w];
                int parts = d == 1 ? 2 : d == 2 && ahead != 2 ? 3 : 1;
                sums[r] += raided / parts + (raided % parts > 0 ? 1 : 0);
            }
            plan[1] += d == 1 ? 1 : 0;
            plan[2 + w] = d;
            ahead = d;
            w++;
        }
        plan[0] = java.util.Arrays.stream(sums).max().orElse(0);
        all.add(plan);
    }

    public int count(int what) {
        if (!in(what, 0, 15)) return BAD;
        if (what >= 13) return (int) frames.stream().filter(f -> f.how == what - 13).count();
        return new int[] {night, shops.size(), frames.size(), raids.size(), persons.size(), seen.size(), words.size(),
            meetings.size(), clauses.size(), rows.size(), texts.size(), tape.length(), list}[what];
    }

    public int sheet(int sheet, int sort, int n) {
        if (!in(sheet, 0, 3) || !in(sort, -1, 2) || sort >= 0 && n > 40) return BAD;
        try {
            sheets[sheet] = sort < 0 ? null : sort == 0 ? new byte[n] : sort == 1 ? new short[n] : new int[n];
            return 1;
        } catch (NegativeArraySizeException e) {
            return -14;
        }
    }

    public int cell(int sheet, int i, int v) {
        if (!in(sheet, 0, 3)) return BAD;
        try {
            if (sheets[sheet] instanceof byte[] b) b[i] = (byte) v;
            else if (sheets[sheet] instanceof short[] s) s[i] = (short) v;
            else ((int[]) sheets[sheet])[i] = v;
            return 1;
        } catch (NullPointerException e) {
            return -11;
        } catch (ArrayIndexOutOfBoundsException e) {
            return -12;
        }
    }

    @SuppressWarnings("SuspiciousSystemArraycopy")
    public int copy(int sheet, int i, int other, int j, int n) {
        if (!in(sheet, 0, 3) || !in(other, 0, 3)) return BAD;
        try {
            System.arraycopy(sheets[sheet], i, sheets[other], j, n);
            return n;
        } catch (NullPointerException e) {
            return -11;
        } catch (ArrayStoreException e) {
            return -13;
        } catch (IndexOutOfBoundsException e) {
            return -12;
        }
    }

    public int paysRow(int sheet, int sort, int from, int n) {
        if (!in(sheet, 0, 3) || !in(sort, 0, 2) || !in(n, 0, 8)) return BAD;
        int told = 0;
        try {
            Object row = sort == 0 ? (byte[]) sheets[sheet] : sort == 1 ? (short[]) sheets[sheet] : (int[]) sheets[sheet];
            java.lang.reflect.Array.getLength(row);
            for (int shop = 0; shop < n; shop++) {
                if (pays(shop, java.lang.reflect.Array.getInt(row, from + shop)) >= 0) told++;
            }
            return told;
        } catch (ClassCastException e) {
            return -13;
        } catch (NullPointerException e) {
            return -11;
        } catch (ArrayIndexOutOfBoundsException e) {
            return -12;
        }
    }

    public int taken(int frame, int k) {
        if (!in(k, 0, 5)) return BAD;
        if (!of(frame, frames)) return -11;
        Plain f = frames.get(frame);
        try {
            Plain as = switch (k) {
                case 0 -> f;
                case 1 -> (Wide) f;
                case 2 -> (Narrow) f;
                case 3 -> (Cut) f;
                case 4 -> (Lace) f;
                default -> (Power) f;
            };
            return as.width;
        } catch (ClassCastException e) {
            return -13;
        }
    }
}
