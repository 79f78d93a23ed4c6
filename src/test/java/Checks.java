/** What the hand-made tests share: calls with the answers that are due, and sheets that are written and loaded. */
abstract class Checks {
    static final String ILLEGAL_TEXT = "IllegalArgumentException";
    static final String UNSUPPORTED = "UnsupportedOperationException";
    static final String ILLEGAL_STATE = "IllegalStateException";
    static final String NO_INDEX = "IndexOutOfBoundsException";
    static final String NO_ELEMENT = "NoSuchElementException";
    static final int[] FAR = {Integer.MIN_VALUE, -256, -1, 256, 1 << 30, Integer.MAX_VALUE};
    /** Eight rules in 240 characters. */
    static final String FULL = "p(f(a,b,c),f(a,b,c),f(a,b,c)).".repeat(8);
    /** Two take one or two from a heap of four, in turn; who takes the last one has won. */
    static final String NIM = "R(a).R(b).I(4).I(a).o(a,b).o(b,a).s(0,1).s(1,2).s(2,3).s(3,4)."
            + "L(U,V):R(U),T(U),T(W),s(V,W).L(U,V):R(U),T(U),T(W),s(V,X),s(X,W).L(U,n):R(U),~T(U)."
            + "N(V):D(U,V),s(V,W).N(V):T(U),o(U,V).E:T(0).G(U,8):R(U),~T(U).G(U,0):R(U),T(U).";
    /** The numbers 0 to 9 in their order. */
    static final String LINE = "s(0,1).s(1,2).s(2,3).s(3,4).s(4,5).s(5,6).s(6,7).s(7,8).s(8,9).";

    /** 9 + 81 + 81 + 9 + 9 + 9 facts in 14 rules. */
    static final String FACTS_198 = things(9) + "w(U,V):k(U),k(V).x(U,V):k(U),k(V).y(U,a):k(U).y(U,b):k(U).y(U,c):k(U).";

    private static String sentence = "";
    private static int checks = 0;
    private static int wrong = 0;

    interface Call {
        Object of();
    }

    /** The sentence of the document that the next checks are for. */
    static void sentence(String text) {
        sentence = text;
    }

    private static String answer(Call call) {
        try {
            return String.valueOf(call.of());
        } catch (RuntimeException e) {
            return e.getClass().getSimpleName();
        }
    }

    static void due(String what, Call call, Object want) {
        String got = answer(call);
        checks++;
        if (!got.equals(String.valueOf(want))) {
            wrong++;
            System.out.println(sentence + ": " + what + " answered " + got + ", due is " + want);
        }
    }

    static void due(int promise, String what, Call call, Object want) {
        sentence("promise " + promise);
        due(what, call, want);
    }

    /** A call that must answer so and change nothing that other calls tell. */
    static void idleDue(RuleArena x, String what, Call call, Object want) {
        String before = told(x);
        due(what, call, want);
        due("all stays behind " + what, () -> told(x), before);
    }

    static void finish() {
        System.out.println(checks + " checks, " + wrong + " wrong");
        if (wrong != 0) {
            System.exit(1);
        }
    }

    static long eight(String text) {
        long eight = 0;
        for (char c : text.toCharArray()) {
            eight = eight << 8 | c;
        }
        return eight;
    }

    static void put(RuleArena x, String text) {
        for (int from = 0; from < text.length(); from += 8) {
            String part = text.substring(from, Math.min(text.length(), from + 8));
            due("write of " + part, () -> x.write(eight(part)), true);
        }
    }

    static void loadDue(RuleArena x, String text, Object want) {
        put(x, text);
        due("load of " + text, x::load, want);
    }

    /** A text with a fault, or without one if the kind is 0: then the place is how many rules it has. */
    static void faultDue(String text, int kind, int place) {
        RuleArena x = new RuleArena();
        loadDue(x, text, kind == 0 ? place : kind == 1 ? ILLEGAL_TEXT : UNSUPPORTED);
        due("fault(0) of " + text, () -> x.fault(0), kind);
        due("fault(1) of " + text, () -> x.fault(1), kind == 0 ? 0 : place);
    }

    /** A new object that has the rules of the text. */
    static RuleArena arena(String text) {
        RuleArena x = new RuleArena();
        loadDue(x, text, text.split("\\.").length);
        return x;
    }

    /** The facts k of n constants, of at most 20. */
    static String things(int n) {
        return things('k', n);
    }

    static String things(char name, int n) {
        StringBuilder out = new StringBuilder();
        for (int k = 0; k < n; k++) {
            out.append(name).append('(').append("0123456789abcdefghij".charAt(k)).append(").");
        }
        return out.toString();
    }

    /** The text that letter() spells. */
    static String spell(RuleArena x, int what, int k) {
        StringBuilder out = new StringBuilder();
        for (int c = x.letter(what, k, 0); c != RuleArena.NONE; c = x.letter(what, k, out.length())) {
            out.append((char) c);
        }
        return out.toString();
    }

    static String spellAll(RuleArena x, int what) {
        return spellFirst(x, what, 200);
    }

    private static String spellFirst(RuleArena x, int what, int most) {
        StringBuilder out = new StringBuilder();
        String next = spell(x, what, 0);
        for (int k = 1; k <= most && !next.isEmpty(); k++) {
            out.append(k == 1 ? "" : " ").append(next);
            next = spell(x, what, k);
        }
        return out.toString();
    }

    /** What the calls tell of rules, state and audit. */
    static String told(RuleArena x) {
        return "audit " + x.many(2) + ", " + toldOfState(x);
    }

    /** What the calls tell of rules and state, in few calls, as an object has 512. */
    static String toldOfState(RuleArena x) {
        StringBuilder out = new StringBuilder();
        out.append(x.many(0)).append(' ').append(x.many(1)).append(' ');
        for (int player = 0; player < 2; player++) {
            out.append(x.moves(player)).append(' ').append(x.goal(player)).append(' ');
        }
        out.append(x.over()).append(' ').append(x.facts('E', 0));
        for (char keyword : "RITN".toCharArray()) {
            out.append(' ').append(x.facts(keyword, 1));
        }
        for (char keyword : "DLG".toCharArray()) {
            out.append(' ').append(x.facts(keyword, 2));
        }
        for (char name : "kswz".toCharArray()) {
            for (int terms = 0; terms < 4; terms++) {
                out.append(' ').append(x.facts(name, terms));
            }
        }
        for (int what = 0; what < 4; what++) {
            out.append("; ").append(spellFirst(x, what, 5));
        }
        return out.toString();
    }
}
