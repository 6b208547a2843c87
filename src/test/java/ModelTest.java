import java.util.ArrayList;
import java.util.List;
import java.util.Random;

/** Long runs of calls by chance (always the same ones), each answer held against the Model's. */
public final class ModelTest {
    private static final int RUNS = 900;
    private static final int CALLS = 512;
    private static final String[] WORDS = {
        "plain", "smooth", "shy", "host", "season", "as", "room", ";", ";", " ", "0", "1", "2", "63", "8", "007", "A", "x"};

    private final Random random;
    private final int run;
    private final NearlyKnown x = new NearlyKnown();
    private final Model model = new Model();
    private final List<String> calls = new ArrayList<>();
    private boolean wrong = false;

    private ModelTest(int run) {
        this.run = run;
        this.random = new Random(run);
    }

    private int below(int n) {
        return random.nextInt(n);
    }

    /** Mostly from low to high, sometimes beyond. */
    private int about(int low, int high) {
        switch (below(40)) {
            case 0:
                return low - 1;
            case 1:
                return high + 1;
            case 2:
                return random.nextInt();
            case 3:
                return below(2) == 0 ? Integer.MIN_VALUE : Integer.MAX_VALUE;
            default:
                return low + below(high - low + 1);
        }
    }

    private int who() {
        return about(0, Math.max(0, model.count(0) - 1));
    }

    private int company() {
        return about(0, (1 << model.count(0)) - 1);
    }

    private int role() {
        return below(3) == 0 ? about(0, 7) : 1 + below(3);
    }

    private void same(String call, int got, int want) {
        calls.add(call + " -> " + got);
        if (got != want && !wrong) {
            wrong = true;
            System.out.println("run " + run + ", call " + calls.size() + ": " + call
                    + " answered " + got + ", the model " + want);
            System.out.println(calls.subList(Math.max(0, calls.size() - 200), calls.size()));
        }
    }

    private String clause(int people) {
        if (people < 2 || (people < 6 && below(5) == 0)) {
            return WORDS[below(4)];
        }
        switch (below(8)) {
            case 0:
                return "room " + below(1 << people);
            case 1:
                return below(5) == 0 ? "season" : "room 0";
            default:
                int a = below(people);
                return "as " + a + " " + (a + 1 + below(people - 1)) % people + " " + (1 + below(3));
        }
    }

    /** A text that is mostly right, of up to some clauses; people are counted as they are told. */
    private String someText(int most) {
        StringBuilder text = new StringBuilder();
        int people = model.count(0);
        int clauses = 1 + below(most);
        for (int i = 0; i < clauses && text.length() < 150; i++) {
            String clause = clause(people);
            people = clause.equals("season") ? 0 : people + (clause.indexOf(' ') < 0 ? 1 : 0);
            text.append(i == 0 ? "" : below(9) == 0 ? " ; " : ";").append(clause);
        }
        return text.toString();
    }

    /** With a token put in, taken out, or put in place of some letters. */
    private String marred(String text) {
        int at = below(text.length());
        return new StringBuilder(text)
                .replace(at, Math.min(text.length(), at + below(4)), WORDS[below(WORDS.length)]).toString();
    }

    private void writeText(String text) {
        for (int i = 0; i < text.length(); i++) {
            same("write(" + (int) text.charAt(i) + ")", x.write(text.charAt(i)), model.write(text.charAt(i)));
        }
        same("fault()", x.fault(), model.fault());
        same("season()", x.season(), model.season());
        same("erase()", x.erase(), model.erase());
    }

    private void company(int most) {
        StringBuilder text = new StringBuilder("season");
        for (int p = 0; p < most; p++) {
            text.append(';').append(WORDS[below(2) == 0 ? 0 : below(4)]);
        }
        writeText(text.append(";room ").append((1 << most) - 1 & ~(1 << below(9))).toString());
        for (int i = below(4 * most * most); i > 0; i--) {
            int a = who();
            int b = who();
            int r = role();
            same("introduce(" + a + "," + b + "," + r + ")", x.introduce(a, b, r), model.introduce(a, b, r));
        }
    }

    private void call() {
        int a = who();
        int b = who();
        int c = company();
        int r = role();
        int k = about(0, 1);
        int n = about(0, below(4) == 0 ? 20 : 4);
        switch (below(26)) {
            case 0 -> same("write(" + n + ")", x.write(n), model.write(n));
            case 1 -> same("fault()", x.fault(), model.fault());
            case 2 -> same("person(" + a + "," + n + ")", x.person(a, n), model.person(a, n));
            case 3 -> same("to(" + a + "," + b + ")", x.to(a, b), model.to(a, b));
            case 4 -> same("as(" + a + "," + n + ")", x.as(a, n), model.as(a, n));
            case 5, 6 -> same("comes(" + a + "," + k + ")", x.comes(a, k), model.comes(a, k));
            case 7, 8 -> same("introduce(" + a + "," + b + "," + r + ")", x.introduce(a, b, r), model.introduce(a, b, r));
            case 9 -> same("contradict(" + a + "," + b + ")", x.contradict(a, b), model.contradict(a, b));
            case 10 -> same("evening()", x.evening(), model.evening());
            case 11 -> same("undo()", x.undo(), model.undo());
            case 12 -> same("keep(" + k + ")", x.keep(k), model.keep(k));
            case 13 -> {
                if (below(3) == 0) {
                    same("back(" + k + ")", x.back(k), model.back(k));
                }
            }
            case 14 -> same("clash(" + c + ")", x.clash(c), model.clash(c));
            case 15 -> {
                int of = below(3) == 0 ? -1 : a;
                same("rooms(" + c + "," + of + ")", x.rooms(c, of), model.rooms(c, of));
            }
            case 16 -> same("largest(" + c + ")", x.largest(c), model.largest(c));
            case 17 -> same("smallest(" + c + ")", x.smallest(c), model.smallest(c));
            case 18 -> same("may(" + a + "," + b + ")", x.may(a, b), model.may(a, b));
            case 19 -> same("learn(" + a + "," + r + "," + n + ")", x.learn(a, r, n), model.learn(a, r, n));
            case 20 -> same("stays(" + n + ")", x.stays(n), model.stays(n));
            case 21 -> seenOne(c, a, r);
            case 22 -> same("was(" + a + "," + b + ")", x.was(a, b), model.was(a, b));
            case 23 -> {
                int q = about(0, 10);
                same("chance(" + c + "," + q + "," + k + ")", x.chance(c, q, k), model.chance(c, q, k));
            }
            case 24 -> {
                if (below(4) == 0) {
                    same("forget()", x.forget(), model.forget());
                }
            }
            default -> {
                int what = about(0, 7);
                same("count(" + what + ")", x.count(what), model.count(what));
            }
        }
    }

    /** Half of what is seen is made so that it is true now: else nothing could be all it was. */
    private void seenOne(int company, int person, int role) {
        int r = role;
        if (below(2) == 0 && person >= 0 && person < model.count(0) && company >= 0) {
            int bits = 0;
            for (int o = 0; o < 6; o++) {
                if ((company >> o & 1) == 1 && model.to(person, o) > 0) {
                    bits |= 1 << model.to(person, o);
                }
            }
            r = Integer.bitCount(bits) == 1 ? Integer.numberOfTrailingZeros(bits) : 0;
        }
        same("seen(" + company + "," + person + "," + r + ")", x.seen(company, person, r), model.seen(company, person, r));
    }

    private void counts() {
        for (int what = 0; what <= 7; what++) {
            same("count(" + what + ")", x.count(what), model.count(what));
        }
    }

    private boolean goByCalls() {
        company(2 + below(5));
        while (calls.size() < CALLS && !wrong) {
            if (below(200) == 0) {
                writeText(someText(4));
            } else {
                call();
            }
        }
        counts();
        return !wrong;
    }

    private boolean goByTexts() {
        while (calls.size() < CALLS && !wrong) {
            String text = someText(16);
            writeText(below(2) == 0 ? text : marred(text));
            counts();
            int a = who();
            same("comes(" + a + ",1)", x.comes(a, 1), model.comes(a, 1));
            same("evening()", x.evening(), model.evening());
            for (int o = 0; o < 6; o++) {
                same("to(" + a + "," + o + ")", x.to(a, o), model.to(a, o));
                same("person(" + o + ",0)", x.person(o, 0), model.person(o, 0));
            }
        }
        return !wrong;
    }

    public static void main(String[] args) {
        int bad = 0;
        for (int run = 0; run < RUNS; run++) {
            ModelTest test = new ModelTest(run);
            if (!(run % 3 == 0 ? test.goByTexts() : test.goByCalls())) {
                bad++;
            }
        }
        System.out.println("model: " + RUNS + " runs, " + bad + " not as due");
        if (bad != 0) {
            System.exit(1);
        }
    }
}
