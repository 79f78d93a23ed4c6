import java.util.ArrayList;
import java.util.List;
import java.util.TreeMap;

/** The same calls on a RuleArena and on the Oracle, for many sheets: every answer must be the same. */
public final class OracleTest {
    private static int wrong = 0;
    private static int calls = 0;
    private static final TreeMap<String, Integer> seen = new TreeMap<>();

    private final RuleArena arena = new RuleArena();
    private final Oracle oracle = new Oracle();
    private final List<String> told = new ArrayList<>();
    private String loaded = "";

    private interface Call {
        Object of();
    }

    private static String answer(Call call) {
        try {
            return String.valueOf(call.of());
        } catch (RuntimeException e) {
            return "throws." + e.getClass().getSimpleName();
        }
    }

    private String due(String name, Call got, Call want) {
        String g = answer(got);
        String w = answer(want);
        calls++;
        told.add(name + " = " + w);
        if (!g.equals(w)) {
            wrong++;
            if (wrong < 10) {
                System.out.println("sheet " + loaded + "\n  calls " + told + "\n  " + name + " answered " + g + ", due is " + w);
            }
        }
        return w;
    }

    private static void count(String what) {
        seen.merge(what, 1, Integer::sum);
    }

    private void write(String text) {
        for (int from = 0; from < text.length(); from += 8) {
            long eight = 0;
            for (char c : text.substring(from, Math.min(text.length(), from + 8)).toCharArray()) {
                eight = eight << 8 | c;
            }
            long sent = eight;
            due("write", () -> arena.write(sent), () -> oracle.write(sent));
        }
    }

    private void lookAtAll() {
        for (int what = -1; what <= 4; what++) {
            int w = what;
            due("fault(" + w + ")", () -> arena.fault(w), () -> oracle.fault(w));
            due("many(" + w + ")", () -> arena.many(w), () -> oracle.many(w));
            due("moves(" + w + ")", () -> arena.moves(w), () -> oracle.moves(w));
            due("goal(" + w + ")", () -> arena.goal(w), () -> oracle.goal(w));
            for (int k = -1; k <= 5; k++) {
                for (int i = -1; i <= 8; i++) {
                    int at = k;
                    int in = i;
                    due("letter(" + w + ", " + k + ", " + i + ")", () -> arena.letter(w, at, in), () -> oracle.letter(w, at, in));
                }
            }
            for (char c : "RITNDLGEpqrstghsmkloA ".toCharArray()) {
                due("facts(" + c + ", " + w + ")", () -> arena.facts(c, w), () -> oracle.facts(c, w));
            }
        }
        due("over", arena::over, oracle::over);
    }

    private void search() {
        count("audit " + due("audit", arena::audit, oracle::audit));
        due("many(2)", () -> arena.many(2), () -> oracle.many(2));
    }

    private void weigh() {
        count("worth " + due("worth", arena::worth, oracle::worth));
        String best = due("best", arena::best, oracle::best);
        count("best " + (best.startsWith("throws") ? best : "move"));
        due("many(2)", () -> arena.many(2), () -> oracle.many(2));
    }

    private void run(Sheets sheets) {
        for (int load = 0; load < 3; load++) {
            loaded = sheets.next();
            write(loaded);
            String result = due("load", arena::load, oracle::load);
            count("load " + (result.startsWith("throws") ? result + oracle.fault(0) : "well"));
            lookAtAll();
            if (sheets.below(3) == 0) {
                search();
            }
            for (int step = 0; step < 6; step++) {
                int a = sheets.below(4) - (sheets.below(8) == 0 ? 1 : 0);
                int b = sheets.below(12) == 0 ? 1 : 0;
                int first = a >= Math.max(1, oracle.moves(0)) && sheets.below(8) > 0 ? 0 : a;
                String played = due("play(" + first + ", " + b + ")", () -> arena.play(first, b), () -> oracle.play(first, b));
                count("play " + (played.startsWith("throws") ? played : "well"));
                if (sheets.below(4) == 0) {
                    lookAtAll();
                }
                if (sheets.below(3) == 0) {
                    weigh();
                }
                if (sheets.below(12) == 0) {
                    due("restart", arena::restart, oracle::restart);
                }
            }
            search();
            weigh();
            lookAtAll();
        }
    }

    public static void main(String[] args) {
        int runs = args.length > 0 ? Integer.parseInt(args[0]) : 300;
        long seed = args.length > 1 ? Long.parseLong(args[1]) : 1;
        for (int run = 0; run < runs; run++) {
            new OracleTest().run(new Sheets(seed * 1000003 + run));
        }
        System.out.println(calls + " calls compared, " + wrong + " wrong: " + seen);
        if (wrong != 0) {
            System.exit(1);
        }
    }
}
