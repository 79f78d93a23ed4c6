import java.util.Random;

/** Sheets by chance, but the same ones in each run: the seed is given. */
final class Sheets {
    private final Random random;

    Sheets(long seed) {
        // Neighbouring seeds begin alike, so they are spread.
        random = new Random(seed * 0x9E3779B97F4A7C15L);
    }

    String next() {
        switch (random.nextInt(10)) {
            case 0:
                return cut(mutate(grammatical(), 1 + random.nextInt(3)));
            case 1:
                return cut(grammatical());
            case 2:
            case 3:
                return sensible();
            case 4:
                return countdown();
            case 5:
                return graph();
            case 6:
                return crowd();
            case 7:
                return chase();
            case 8:
                return random.nextInt(3) == 0 ? mutate(subsets(), 1) : subsets();
            default:
                return random.nextBoolean() ? without(graph()) : without(countdown());
        }
    }

    int below(int n) {
        return random.nextInt(n);
    }

    private static String cut(String text) {
        return text.length() > 240 ? text.substring(0, 240) : text;
    }

    private char pick(String from) {
        return from.charAt(random.nextInt(from.length()));
    }

    private String mutate(String text, int times) {
        StringBuilder out = new StringBuilder(text);
        for (int k = 0; k < times && out.length() > 0; k++) {
            int at = random.nextInt(out.length());
            switch (random.nextInt(3)) {
                case 0:
                    out.deleteCharAt(at);
                    break;
                case 1:
                    out.insert(at, pick("abfUVZ019RITNDLGE(),.:~# A"));
                    break;
                default:
                    out.setCharAt(at, pick("abfUVZ019RITNDLGE(),.:~# A"));
                    break;
            }
        }
        return out.toString();
    }

    /** One rule less. */
    private String without(String text) {
        String[] rules = text.split("(?<=\\.)");
        int leave = random.nextInt(rules.length);
        StringBuilder out = new StringBuilder();
        for (int k = 0; k < rules.length; k++) {
            out.append(k == leave ? "" : rules[k]);
        }
        return out.toString();
    }

    private String term(String plain) {
        if (random.nextInt(4) > 0) {
            return "" + pick(plain);
        }
        StringBuilder out = new StringBuilder("" + pick("fg") + "(" + pick(plain));
        for (int k = random.nextInt(3); k > 0; k--) {
            out.append(',').append(pick(plain));
        }
        return out.append(')').toString();
    }

    private String terms(int n, String plain) {
        StringBuilder out = new StringBuilder();
        for (int k = 0; k < n; k++) {
            out.append(k == 0 ? "(" : ",").append(term(plain));
        }
        return n == 0 ? "" : out.append(')').toString();
    }

    private String atom(String names, String plain) {
        char name = pick(names);
        if (name == 'E') {
            return "E";
        }
        if ("RITN".indexOf(name) >= 0) {
            return name + terms(1, plain);
        }
        if ("DLG".indexOf(name) >= 0) {
            return name + terms(2, plain);
        }
        return name + terms(random.nextInt(4), plain);
    }

    private String grammatical() {
        StringBuilder out = new StringBuilder();
        int rules = random.nextInt(10) == 0 ? 20 + random.nextInt(7) : 1 + random.nextInt(6);
        boolean small = rules > 10;
        for (int r = 0; r < rules; r++) {
            out.append(small ? atom("pq", "ab").substring(0, 1) : atom("pqrRITNDLGE", "UZab01"));
            int literals = random.nextInt(3) > 0 ? 0 : 1 + random.nextInt(small ? 2 : 6);
            for (int k = 0; k < literals; k++) {
                out.append(k == 0 ? ':' : ',');
                int kind = random.nextInt(4);
                out.append(kind == 0 ? "~" : "");
                out.append(kind == 1 ? term("UZab01") + "#" + term("UZab01") : atom("pqrTDLGERIN", "UZab01"));
            }
            out.append('.');
        }
        return out.toString();
    }

    /** Rules that often have no fault, over few names and constants, so that much follows. */
    private String sensible() {
        StringBuilder out = new StringBuilder();
        if (random.nextInt(5) > 0) {
            out.append("R(a).R(b).I(0).L(a,0).L(b,1).");
            if (random.nextBoolean()) {
                out.append("L(a,1).");
            }
        }
        String heads = "pqrstpqrstNNNNILGE";
        for (int r = random.nextInt(14); r >= 0; r--) {
            String rule = random.nextInt(3) == 0 ? atom("pqrs", "abcd01234") + "." : derived(heads);
            if (out.length() + rule.length() <= 240) {
                out.append(rule);
            }
        }
        if (out.length() == 0) {
            out.append("p.");
        }
        return out.toString();
    }

    private String derived(String heads) {
        char head = pick(heads);
        String asked = head == 'I' ? "pqrs" : head == 'N' ? "pqrstTTDD" : "LGE".indexOf(head) >= 0 ? "pqrstTT" : "pqrsTD";
        StringBuilder body = new StringBuilder();
        StringBuilder seen = new StringBuilder("01");
        for (int k = random.nextInt(3); k >= 0; k--) {
            String atom = atom(asked, random.nextInt(3) == 0 ? "UYZa01" : random.nextInt(3) == 0 ? "UVWXYZ" : "UVWXU");
            body.append(body.length() == 0 ? ':' : ',').append(atom);
            for (char c : atom.toCharArray()) {
                if (c >= 'U' && c <= 'Z') {
                    seen.append(c).append(c);
                }
            }
        }
        if (random.nextInt(3) == 0) {
            body.append(',').append('~').append(atom(asked, seen.toString()));
        }
        if (random.nextInt(3) == 0) {
            body.append(',').append(term(seen.toString())).append('#').append(term(seen.toString()));
        }
        return atom("" + head, seen.toString()) + body + ".";
    }

    /** Two take from a heap in turn. */
    private String countdown() {
        int heap = 1 + random.nextInt(7);
        StringBuilder out = new StringBuilder("R(x).R(o).I(h(" + heap + ")).I(c(" + pick("xo") + ")).o(x,o).o(o,x).");
        for (int k = 0; k < heap; k++) {
            out.append("s(" + k + "," + (k + 1) + ").");
        }
        out.append("L(U,m(V)):T(c(U)),T(h(W)),s(V,W).");
        if (random.nextBoolean()) {
            out.append("L(U,n(V)):T(c(U)),T(h(W)),s(Y,W),s(V,Y).N(h(V)):D(U,n(V)).");
        }
        out.append("L(U,p):T(c(V)),o(U,V).N(h(V)):D(U,m(V)).N(c(V)):T(c(U)),o(U,V).E:T(h(0)).");
        String goals = "G(U," + pick("888769") + "):T(c(V)),o(U,V).G(U," + pick("00012") + "):T(c(U)).";
        if (out.length() + goals.length() <= 240) {
            out.append(goals);
        }
        return cut(out.toString());
    }

    /** Two lead one stone along the edges of a graph. */
    private String graph() {
        StringBuilder out = new StringBuilder("R(a).R(b).I(0).I(a).o(a,b).o(b,a).");
        out.append("L(U,V):T(U),T(W),g(W,V).L(U,n):R(U),~T(U).N(V):D(U,V),g(W,V).N(V):T(U),o(U,V).");
        out.append("m(U):g(U,V).E:T(U),g(V,U),~m(U).");
        String shared = random.nextBoolean() ? "" : "G(U," + (5 + random.nextInt(4)) + "):T(U).G(U," + random.nextInt(4) + "):R(U),~T(U).";
        String own = "G(a,U):T(U),g(V,U).G(b,W):G(a,V),k(V,W).";
        out.append(shared.isEmpty() ? own : shared);
        boolean circles = random.nextInt(4) == 0;
        while (out.length() <= 230) {
            int from = random.nextInt(8);
            int to = circles ? random.nextInt(9) : from + 1 + random.nextInt(8 - from);
            String name = shared.isEmpty() && random.nextInt(3) == 0 ? "k" : "g";
            out.append(name.equals("k") ? "k(" + to + "," + (8 - to) + ")." : "g(" + from + "," + to + ").");
            if (random.nextInt(14) == 0) {
                break;
            }
        }
        return out.length() > 240 ? "R(a)." : out.toString();
    }

    /** One takes one thing after the other, up to all: the states are sets of things. */
    private String subsets() {
        int things = 2 + random.nextInt(6);
        StringBuilder out = new StringBuilder("R(a).R(b).");
        for (int k = 0; k < things; k++) {
            out.append("k(" + k + ").");
        }
        out.append("l:k(U),~T(U).L(a,U):k(U),~T(U).L(b,i).N(U):T(U).N(U):D(a,U),k(U).");
        out.append(random.nextInt(4) == 0 ? "N(f(U,V)):T(U),D(a,V)." : "");
        out.append(random.nextInt(4) == 0 ? "w(U,V,W):T(U),T(V),T(W)." : "");
        out.append("E:~l.G(a,").append(pick("0358")).append("):E.G(b,").append(pick("0358")).append(").");
        return cut(out.toString());
    }

    /** Counts near the limits: of facts, of a product, of a state's terms. */
    private String crowd() {
        StringBuilder out = new StringBuilder(random.nextBoolean() ? "R(a).R(b).L(a,0).L(b,0)." : "R(a).L(U,0):R(U).R(b).");
        int things = 4 + random.nextInt(8);
        for (int k = 0; k < things; k++) {
            out.append("k(" + pick("0123456789abc") + ").");
        }
        String[] more = {"z:k(U),k(V),k(W),k(X),k(Y).", "z:k(U),k(V),k(W),w(X,Y).", "w(U,V):k(U),k(V).", "x(U,V):k(U),k(V).",
            "y(U,0):k(U).", "y(U,1):k(U).", "N(f(U,V)):k(U),k(V),U#V.", "N(f(U)):k(U),T(U).", "I(f(U,V)):k(U),k(V),~j(U).",
            "j(0).", "j(U):k(U),~y(U,0).", "u(U,V):T(U),k(V).", "v(U,V,W):T(U),D(V,W).", "q(U,V):D(W,X),k(U),k(V).", "I(U):k(U).",
            "N(U):k(U).", "z:k(U),k(V),k(W),k(X),k(Y),e.", "z:w(U,V),w(V,U),k(W),~e.", "w(V,U):w(U,V)."};
        for (int k = 1 + random.nextInt(6); k > 0; k--) {
            String rule = more[random.nextInt(more.length)];
            out.append(out.length() + rule.length() <= 240 ? rule : "");
        }
        return cut(out.toString());
    }

    /** Both move at once, or in turn, on a line; it ends when they meet. */
    private String chase() {
        int last = 2 + random.nextInt(4);
        StringBuilder out = new StringBuilder("R(a).R(b).I(a(0)).I(b(" + last + ")).");
        for (int k = 0; k < last; k++) {
            out.append("s(" + k + "," + (k + 1) + ").");
        }
        out.append("L(a,V):T(a(U)),s(U,V).L(b,V):T(b(U)),s(V,U).");
        out.append(random.nextBoolean() ? "L(b,U):T(b(U))." : "");
        out.append(random.nextInt(3) > 0 ? "L(a,U):T(a(U))." : "");
        out.append("N(a(U)):D(a,U).N(b(U)):D(b,U).E:T(a(U)),T(b(V)),~u(U,V).u(U,V):s(U,V).u(U,V):u(U,W),s(W,V).");
        out.append(out.length() < 210 ? "G(a,V):T(a(V)).G(b,8)." : "");
        return cut(out.toString());
    }
}
