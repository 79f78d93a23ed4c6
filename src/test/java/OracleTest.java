import java.util.ArrayList;
import java.util.List;
import java.util.TreeMap;

/** The same calls on a RuleArena and on the Oracle, for many sheets: every answer must be the same. */
public final class OracleTest {
    /** Behind these the document leaves it free what an object answers. */
    private static final int CALLS_MOST = 512;
    /** What a load with its sheet, a step, and the last look at a game take at the most. */
    private static final int LOAD_CALLS = 75;
    private static final int STEP_CALLS = 50;
    private static final int LAST_CALLS = 50;

    private static int wrong = 0;
    private static int calls = 0;
    private static final TreeMap<String, Integer> seen = new TreeMap<>();

    private final RuleArena arena = new RuleArena();
    private final Oracle oracle = new Oracle();
    private final List<String> told = new ArrayList<>();
    private String loaded = "";

    private interface Call {
        Object of();
    }

    private static String answer(Call call) {
        try {
            return String.valueOf(call.of());
        } catch (RuntimeException e) {
            return "throws." + e.getClass().getSimpleName();
        }
    }

    private String due(String name, Call got, Call want) {
        String g = answer(got);
        String w = answer(want);
        calls++;
        told.add(name + " = " + w);
        if (!g.equals(w)) {
            wrong++;
            if (wrong < 10) {
                System.out.println("sheet " + loaded + "\n  calls " + told + "\n  " + name + " answered " + g + ", due is " + w);
            }
        }
        return w;
    }

    private static void count(String what) {
        seen.merge(what, 1, Integer::sum);
    }

    private void write(String text) {
        for (int from = 0; from < text.length(); from += 8) {
            long eight = 0;
            for (char c : text.substring(from, Math.min(text.length(), from + 8)).toCharArray()) {
                eight = eight << 8 | c;
            }
            long sent = eight;
            due("write", () -> arena.write(sent), () -> oracle.write(sent));
        }
    }

    /** Some 40 calls, not all that there are, as an object has no more than 512 in all. */
    private void look(Sheets sheets) {
        for (int what = -1; what <= 4; what++) {
            int w = what;
            due("fault(" + w + ")", () -> arena.fault(w), () -> oracle.fault(w));
            due("many(" + w + ")", () -> arena.many(w), () -> oracle.many(w));
            due("moves(" + w + ")", () -> arena.moves(w), () -> oracle.moves(w));
            due("goal(" + w + ")", () -> arena.goal(w), () -> oracle.goal(w));
        }
        due("over", arena::over, oracle::over);
        for (int time = 0; time < 8; time++) {
            int w = sheets.below(6) - 1;
            int k = sheets.below(7) - 1;
            int i = sheets.below(10) - 1;
            due("letter(" + w + ", " + k + ", " + i + ")", () -> arena.letter(w, k, i), () -> oracle.letter(w, k, i));
            char c = "RITNDLGEpqrstghsmkloA ".charAt(sheets.below(22));
            int terms = sheets.below(6) - 1;
            due("facts(" + c + ", " + terms + ")", () -> arena.facts(c, terms), () -> oracle.facts(c, terms));
        }
    }

    private void search() {
        count("audit " + due("audit", arena::audit, oracle::audit));
        due("many(2)", () -> arena.many(2), () -> oracle.many(2));
    }

    private void weigh() {
        count("worth " + due("worth", arena::worth, oracle::worth));
        String best = due("best", arena::best, oracle::best);
        count("best " + (best.startsWith("throws") ? best : "move"));
        due("many(2)", () -> arena.many(2), () -> oracle.many(2));
    }

    private void run(Sheets sheets) {
        for (int load = 0; load < 3 && told.size() + LOAD_CALLS + LAST_CALLS <= CALLS_MOST; load++) {
            loaded = sheets.next();
            write(loaded);
            String result = due("load", arena::load, oracle::load);
            count("load " + (result.startsWith("throws") ? result + oracle.fault(0) : "well"));
            look(sheets);
            if (sheets.below(3) == 0) {
                search();
            }
            for (int step = 0; step < 6 && told.size() + STEP_CALLS + LAST_CALLS <= CALLS_MOST; step++) {
                step(sheets);
            }
            search();
            weigh();
            look(sheets);
        }
    }

    private void step(Sheets sheets) {
        int a = sheets.below(4) - (sheets.below(8) == 0 ? 1 : 0);
        int b = sheets.below(12) == 0 ? 1 : 0;
        int first = a >= Math.max(1, oracle.moves(0)) && sheets.below(8) > 0 ? 0 : a;
        String played = due("play(" + first + ", " + b + ")", () -> arena.play(first, b), () -> oracle.play(first, b));
        count("play " + (played.startsWith("throws") ? played : "well"));
        if (sheets.below(4) == 0) {
            look(sheets);
        }
        if (sheets.below(3) == 0) {
            weigh();
        }
        if (sheets.below(12) == 0) {
            due("restart", arena::restart, oracle::restart);
        }
    }

    public static void main(String[] args) {
        int runs = args.length > 0 ? Integer.parseInt(args[0]) : 300;
        long seed = args.length > 1 ? Long.parseLong(args[1]) : 1;
        for (int run = 0; run < runs; run++) {
            new OracleTest().run(new Sheets(seed * 1000003 + run));
        }
        System.out.println(calls + " calls compared, " + wrong + " wrong: " + seen);
        if (wrong != 0) {
            System.exit(1);
        }
    }
}
