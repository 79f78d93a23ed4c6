import java.util.ArrayList;
import java.util.Collections;
import java.util.HashMap;
import java.util.LinkedHashMap;
import java.util.List;
import java.util.Map;
import java.util.NoSuchElementException;
import java.util.TreeSet;
import java.util.regex.Matcher;
import java.util.regex.Pattern;

/**
 * The document read a second time, by other means and without a thought for speed: terms and facts are texts,
 * the grammar is a regular expression, what follows is found layer by layer by trying everything again and again.
 */
final class Oracle {
    private static final String NAME = "[a-z]";
    private static final String PLAIN = "[U-Za-z0-9]";
    private static final String TERM = "(?:[U-Z0-9]|[a-z](?:\\(" + PLAIN + "(?:," + PLAIN + "){0,2}\\))?)";
    private static final String ATOM = "(?:" + NAME + "(?:\\(" + TERM + "(?:," + TERM + "){0,2}\\))?|[RITN]\\(" + TERM
            + "\\)|[DLG]\\(" + TERM + "," + TERM + "\\)|E)";
    private static final String LITERAL = "(?:" + TERM + "#" + TERM + "|~?" + ATOM + ")";
    // The character 1 never stands on a sheet: a sixth literal is awaited there, but nothing can be it.
    private static final String RULE = "(?:" + ATOM + "(?::" + LITERAL + "(?:," + LITERAL + "){0,4})?\\.)";
    private static final String SIXTH = "(?:" + ATOM + ":" + LITERAL + "(?:," + LITERAL + "){4},\u0001)";
    private static final Pattern SHEET = Pattern.compile("(?:" + RULE + "|" + SIXTH + "){1,24}");
    private static final Pattern ONE_RULE = Pattern.compile(RULE);
    private static final Pattern ONE_LITERAL = Pattern.compile(LITERAL);

    private static final class Beyond extends Exception {
        private static final long serialVersionUID = 1;
    }

    private static final class Lit {
        boolean not;
        boolean unlike;
        String name;
        List<String> terms = new ArrayList<>();

        String relation() {
            return name + terms.size();
        }

        String text() {
            return terms.isEmpty() ? name : name + "(" + String.join(",", terms) + ")";
        }
    }

    private static final class Clause {
        Lit head;
        List<Lit> body = new ArrayList<>();
    }

    private final StringBuilder sheet = new StringBuilder();
    private int faultKind;
    private int faultPlace;
    private List<Clause> rules;
    private TreeSet<String> first;
    private TreeSet<String> state;
    private TreeSet<String> follows;
    private List<String> roles;
    private boolean audited;
    private int outcome;
    private List<TreeSet<String>> came = new ArrayList<>();

    boolean write(long eight) {
        StringBuilder more = new StringBuilder();
        for (int k = 7; k >= 0; k--) {
            int code = (int) (eight >> 8 * k & 255);
            if (code == 0) {
                continue;
            }
            if (code < 32 || code > 126) {
                return false;
            }
            more.append((char) code);
        }
        if (sheet.length() + more.length() > 240) {
            return false;
        }
        sheet.append(more);
        return true;
    }

    void wipe() {
        sheet.setLength(0);
    }

    int load() {
        String text = sheet.toString();
        sheet.setLength(0);
        faultKind = 0;
        faultPlace = 0;
        if (!SHEET.matcher(text).matches()) {
            faultKind = 1;
            faultPlace = wrongPlace(text);
            throw new IllegalArgumentException();
        }
        List<Clause> fresh = parse(text);
        for (int kind = 2; kind <= 5; kind++) {
            for (int r = 0; r < fresh.size(); r++) {
                if (isFaulty(kind, fresh, r)) {
                    faultKind = kind;
                    faultPlace = r;
                    throw new UnsupportedOperationException();
                }
            }
        }
        try {
            TreeSet<String> nothing = close(fresh, new TreeSet<>());
            TreeSet<String> begin = termsOf(nothing, "I");
            TreeSet<String> all = inState(fresh, begin);
            rules = fresh;
            first = begin;
            state = begin;
            follows = all;
            roles = new ArrayList<>(termsOf(nothing, "R"));
            audited = false;
            came = new ArrayList<>();
        } catch (Beyond e) {
            throw new IllegalStateException();
        }
        return fresh.size();
    }

    private static int wrongPlace(String text) {
        for (int n = 1; n <= text.length(); n++) {
            Matcher m = SHEET.matcher(text.substring(0, n));
            if (!m.matches() && !m.hitEnd()) {
                return n - 1;
            }
        }
        return text.length();
    }

    private static List<Clause> parse(String text) {
        List<Clause> found = new ArrayList<>();
        Matcher m = ONE_RULE.matcher(text);
        while (m.find()) {
            String one = m.group().substring(0, m.group().length() - 1);
            Clause clause = new Clause();
            int colon = one.indexOf(':');
            clause.head = literal(colon < 0 ? one : one.substring(0, colon));
            if (colon >= 0) {
                Matcher body = ONE_LITERAL.matcher(one.substring(colon + 1));
                while (body.find()) {
                    clause.body.add(literal(body.group()));
                }
            }
            found.add(clause);
        }
        return found;
    }

    private static Lit literal(String text) {
        Lit lit = new Lit();
        int mark = text.indexOf('#');
        if (mark >= 0) {
            lit.unlike = true;
            lit.name = "#";
            lit.terms.add(text.substring(0, mark));
            lit.terms.add(text.substring(mark + 1));
            return lit;
        }
        lit.not = text.startsWith("~");
        String atom = lit.not ? text.substring(1) : text;
        lit.name = atom.substring(0, 1);
        if (atom.length() > 1) {
            lit.terms = split(atom.substring(2, atom.length() - 1));
        }
        return lit;
    }

    /** At the commas that stand in no compound. */
    private static List<String> split(String text) {
        List<String> parts = new ArrayList<>();
        int depth = 0;
        int from = 0;
        for (int k = 0; k < text.length(); k++) {
            char c = text.charAt(k);
            depth += c == '(' ? 1 : c == ')' ? -1 : 0;
            if (c == ',' && depth == 0) {
                parts.add(text.substring(from, k));
                from = k + 1;
            }
        }
        parts.add(text.substring(from));
        return parts;
    }

    private static TreeSet<Character> variables(Lit lit) {
        TreeSet<Character> found = new TreeSet<>();
        for (String term : lit.terms) {
            for (char c : term.toCharArray()) {
                if (c >= 'U' && c <= 'Z') {
                    found.add(c);
                }
            }
        }
        return found;
    }

    private static TreeSet<String> dependsOn(List<Clause> rules, String relation) {
        TreeSet<String> found = new TreeSet<>();
        List<String> open = new ArrayList<>(List.of(relation));
        while (!open.isEmpty()) {
            String next = open.remove(open.size() - 1);
            for (Clause clause : rules) {
                if (clause.head.relation().equals(next)) {
                    for (Lit lit : clause.body) {
                        if (!lit.unlike && found.add(lit.relation())) {
                            open.add(lit.relation());
                        }
                    }
                }
            }
        }
        return found;
    }

    private static boolean isFaulty(int kind, List<Clause> rules, int r) {
        Clause clause = rules.get(r);
        String name = clause.head.name;
        TreeSet<String> below = dependsOn(rules, clause.head.relation());
        if (kind == 2) {
            boolean inBody = false;
            for (Lit lit : clause.body) {
                inBody |= lit.name.equals("I") || lit.name.equals("N");
            }
            return name.equals("T") || name.equals("D") || inBody
                    || name.equals("R") && (!clause.body.isEmpty() || !variables(clause.head).isEmpty());
        }
        if (kind == 3) {
            TreeSet<Character> needed = variables(clause.head);
            TreeSet<Character> given = new TreeSet<>();
            for (Lit lit : clause.body) {
                (lit.not || lit.unlike ? needed : given).addAll(variables(lit));
            }
            return !given.containsAll(needed);
        }
        if (kind == 4) {
            for (Lit lit : clause.body) {
                if (lit.not && (lit.relation().equals(clause.head.relation())
                        || dependsOn(rules, lit.relation()).contains(clause.head.relation()))) {
                    return true;
                }
            }
            return false;
        }
        if (name.equals("I")) {
            return below.contains("T1") || below.contains("D2") || below.contains("L2") || below.contains("G2")
                    || below.contains("E0");
        }
        return (name.equals("L") || name.equals("G") || name.equals("E")) && below.contains("D2");
    }

    private static Map<String, Integer> levels(List<Clause> rules) {
        Map<String, Integer> level = new HashMap<>();
        for (int round = 0; round < 200; round++) {
            for (Clause clause : rules) {
                for (Lit lit : clause.body) {
                    int least = level.getOrDefault(lit.relation(), 0) + (lit.not ? 1 : 0);
                    if (level.getOrDefault(clause.head.relation(), 0) < least) {
                        level.put(clause.head.relation(), least);
                    }
                }
            }
        }
        return level;
    }

    private TreeSet<String> close(List<Clause> rules, TreeSet<String> given) throws Beyond {
        TreeSet<String> facts = new TreeSet<>(given);
        Map<String, Integer> level = levels(rules);
        for (int now = 0; now <= 24; now++) {
            int before;
            do {
                before = facts.size();
                for (Clause clause : rules) {
                    if (level.getOrDefault(clause.head.relation(), 0) == now) {
                        TreeSet<String> more = new TreeSet<>();
                        if (weigh(clause, facts) == 0) {
                            continue;
                        }
                        join(clause, 0, new LinkedHashMap<>(), facts, more);
                        facts.addAll(more);
                        if (facts.size() > 200) {
                            throw new Beyond();
                        }
                    }
                }
            } while (facts.size() > before);
        }
        for (Clause clause : rules) {
            weigh(clause, facts);
        }
        return facts;
    }

    private static double weigh(Clause clause, TreeSet<String> facts) throws Beyond {
        double product = 1;
        for (Lit lit : clause.body) {
            if (!lit.not && !lit.unlike) {
                product *= count(facts, lit.relation());
            }
        }
        if (product > 100000) {
            throw new Beyond();
        }
        return product;
    }

    private static int count(TreeSet<String> facts, String relation) {
        int n = 0;
        for (String fact : facts) {
            if (literal(fact).relation().equals(relation)) {
                n++;
            }
        }
        return n;
    }

    private void join(Clause clause, int k, Map<Character, String> bound, TreeSet<String> facts, TreeSet<String> more) {
        if (k < clause.body.size()) {
            Lit lit = clause.body.get(k);
            if (lit.not || lit.unlike) {
                join(clause, k + 1, bound, facts, more);
                return;
            }
            for (String fact : facts) {
                Lit ground = literal(fact);
                if (ground.relation().equals(lit.relation())) {
                    Map<Character, String> next = new LinkedHashMap<>(bound);
                    boolean fits = true;
                    for (int t = 0; t < lit.terms.size() && fits; t++) {
                        fits = fits(lit.terms.get(t), ground.terms.get(t), next);
                    }
                    if (fits) {
                        join(clause, k + 1, next, facts, more);
                    }
                }
            }
            return;
        }
        for (Lit lit : clause.body) {
            String text = fill(lit, bound).text();
            if (lit.not && facts.contains(text)
                    || lit.unlike && fill(lit, bound).terms.get(0).equals(fill(lit, bound).terms.get(1))) {
                return;
            }
        }
        for (Map.Entry<Character, String> entry : bound.entrySet()) {
            if (entry.getValue().length() > 1 && standsInCompound(clause, entry.getKey())) {
                return;
            }
        }
        more.add(fill(clause.head, bound).text());
    }

    private static boolean standsInCompound(Clause clause, char variable) {
        List<Lit> all = new ArrayList<>(clause.body);
        all.add(clause.head);
        for (Lit lit : all) {
            for (String term : lit.terms) {
                if (term.length() > 1 && term.indexOf(variable) >= 0) {
                    return true;
                }
            }
        }
        return false;
    }

    private static boolean fits(String pattern, String ground, Map<Character, String> bound) {
        char c = pattern.charAt(0);
        if (pattern.length() == 1 && c >= 'U' && c <= 'Z') {
            String old = bound.putIfAbsent(c, ground);
            return old == null || old.equals(ground);
        }
        if (pattern.length() != ground.length()) {
            return false;
        }
        for (int k = 0; k < pattern.length(); k++) {
            char p = pattern.charAt(k);
            String g = ground.substring(k, k + 1);
            if (p >= 'U' && p <= 'Z') {
                String old = bound.putIfAbsent(p, g);
                if (old != null && !old.equals(g)) {
                    return false;
                }
            } else if (p != g.charAt(0)) {
                return false;
            }
        }
        return true;
    }

    private static Lit fill(Lit lit, Map<Character, String> bound) {
        Lit filled = new Lit();
        filled.name = lit.name;
        for (String term : lit.terms) {
            StringBuilder out = new StringBuilder();
            for (char c : term.toCharArray()) {
                out.append(c >= 'U' && c <= 'Z' ? bound.get(c) : String.valueOf(c));
            }
            filled.terms.add(out.toString());
        }
        return filled;
    }

    private static TreeSet<String> termsOf(TreeSet<String> facts, String keyword) throws Beyond {
        TreeSet<String> found = new TreeSet<>();
        for (String fact : facts) {
            Lit lit = literal(fact);
            if (lit.name.equals(keyword)) {
                found.add(lit.terms.get(0));
            }
        }
        if (found.size() > 24) {
            throw new Beyond();
        }
        return found;
    }

    private TreeSet<String> inState(List<Clause> of, TreeSet<String> terms) throws Beyond {
        TreeSet<String> given = new TreeSet<>();
        for (String term : terms) {
            given.add("T(" + term + ")");
        }
        return close(of, given);
    }

    private TreeSet<String> lead(TreeSet<String> from, String m, String n) throws Beyond {
        TreeSet<String> given = new TreeSet<>();
        for (String term : from) {
            given.add("T(" + term + ")");
        }
        given.add("D(" + roles.get(0) + "," + m + ")");
        given.add("D(" + roles.get(1) + "," + n + ")");
        return termsOf(close(rules, given), "N");
    }

    private List<String> seconds(TreeSet<String> facts, String keyword, int player) {
        TreeSet<String> found = new TreeSet<>();
        if (rules != null && player < roles.size()) {
            for (String fact : facts) {
                Lit lit = literal(fact);
                if (lit.name.equals(keyword) && lit.terms.get(0).equals(roles.get(player))) {
                    found.add(lit.terms.get(1));
                }
            }
        }
        return new ArrayList<>(found);
    }

    int fault(int what) {
        return what == 0 ? faultKind : what == 1 ? faultPlace : -1;
    }

    int many(int what) {
        if (what < 0 || what > 2) {
            return -1;
        }
        if (rules == null) {
            return 0;
        }
        return what == 0 ? roles.size() : what == 1 ? state.size() : came.size();
    }

    int facts(char name, int terms) {
        return rules == null ? 0 : count(follows, name + "" + terms);
    }

    int moves(int player) {
        return isPlayer(player) ? seconds(follows, "L", player).size() : -1;
    }

    private boolean isPlayer(int player) {
        return rules != null && (player == 0 || player == 1) && player < roles.size();
    }

    int over() {
        return rules == null ? -1 : follows.contains("E") ? 1 : 0;
    }

    int goal(int player) {
        return isPlayer(player) ? goalIn(follows, player) : -1;
    }

    private int goalIn(TreeSet<String> facts, int player) {
        List<String> goals = seconds(facts, "G", player);
        return goals.size() == 1 && goals.get(0).matches("[0-8]") ? Integer.parseInt(goals.get(0)) : -1;
    }

    int letter(int what, int k, int i) {
        if (rules == null || what < 0 || what > 3) {
            return -1;
        }
        List<String> list = what == 0 ? roles : what == 1 ? new ArrayList<>(state) : seconds(follows, "L", what - 2);
        if (k < 0 || k >= list.size() || i < 0 || i >= list.get(k).length()) {
            return -1;
        }
        return list.get(k).charAt(i);
    }

    int play(int a, int b) {
        if (rules == null || roles.size() != 2 || follows.contains("E")) {
            throw new IllegalStateException();
        }
        List<String> mine = seconds(follows, "L", 0);
        List<String> theirs = seconds(follows, "L", 1);
        if (a < 0 || b < 0 || a >= mine.size() || b >= theirs.size()) {
            throw new IndexOutOfBoundsException();
        }
        try {
            TreeSet<String> next = lead(state, mine.get(a), theirs.get(b));
            follows = inState(rules, next);
            state = next;
        } catch (Beyond e) {
            throw new IllegalStateException();
        }
        return state.size();
    }

    boolean restart() {
        if (rules == null) {
            return false;
        }
        try {
            follows = inState(rules, first);
        } catch (Beyond e) {
            throw new AssertionError(e);
        }
        state = first;
        return true;
    }

    int audit() {
        if (rules == null) {
            throw new IllegalStateException();
        }
        came = new ArrayList<>(List.of(first));
        outcome = roles.size() == 2 ? lookAtAll() : 1;
        audited = true;
        return outcome;
    }

    private int lookAtAll() {
        Map<Integer, TreeSet<Integer>> steps = new HashMap<>();
        try {
            for (int s = 0; s < came.size(); s++) {
                TreeSet<String> facts = inState(rules, came.get(s));
                steps.put(s, new TreeSet<>());
                List<String> mine = seconds(facts, "L", 0);
                List<String> theirs = seconds(facts, "L", 1);
                if (facts.contains("E")) {
                    int mineGoal = goalIn(facts, 0);
                    int theirGoal = goalIn(facts, 1);
                    if (mineGoal < 0 || theirGoal < 0) {
                        return 4;
                    }
                    if (mineGoal + theirGoal != 8) {
                        return 5;
                    }
                    continue;
                }
                if (mine.isEmpty() || theirs.isEmpty()) {
                    return 2;
                }
                if (mine.size() > 1 && theirs.size() > 1) {
                    return 3;
                }
                for (String m : mine) {
                    for (String n : theirs) {
                        TreeSet<String> next = lead(came.get(s), m, n);
                        if (!came.contains(next)) {
                            if (came.size() == 60) {
                                return 7;
                            }
                            came.add(next);
                        }
                        steps.get(s).add(came.indexOf(next));
                    }
                }
            }
        } catch (Beyond e) {
            return 7;
        }
        for (int s = 0; s < came.size(); s++) {
            TreeSet<Integer> reached = new TreeSet<>(steps.get(s));
            for (int round = 0; round < 60; round++) {
                for (int t : new ArrayList<>(reached)) {
                    reached.addAll(steps.get(t));
                }
            }
            if (reached.contains(s)) {
                return 6;
            }
        }
        return 0;
    }

    private void needSound() {
        if (rules == null) {
            throw new IllegalStateException();
        }
        if (!audited) {
            audit();
        }
        if (outcome != 0) {
            throw new UnsupportedOperationException();
        }
    }

    int worth() {
        needSound();
        return worthOf(state, new HashMap<>());
    }

    private int worthOf(TreeSet<String> at, Map<TreeSet<String>, Integer> known) {
        if (known.containsKey(at)) {
            return known.get(at);
        }
        int value;
        try {
            TreeSet<String> facts = inState(rules, at);
            if (facts.contains("E")) {
                value = goalIn(facts, 0);
            } else {
                List<Integer> behind = new ArrayList<>();
                List<String> theirs = seconds(facts, "L", 1);
                for (String m : seconds(facts, "L", 0)) {
                    for (String n : theirs) {
                        behind.add(worthOf(lead(at, m, n), known));
                    }
                }
                value = theirs.size() == 1 ? Collections.max(behind) : Collections.min(behind);
            }
        } catch (Beyond e) {
            throw new AssertionError(e);
        }
        known.put(at, value);
        return value;
    }

    int best() {
        needSound();
        if (follows.contains("E")) {
            throw new NoSuchElementException();
        }
        Map<TreeSet<String>, Integer> known = new HashMap<>();
        List<String> mine = seconds(follows, "L", 0);
        List<String> theirs = seconds(follows, "L", 1);
        try {
            for (int a = 0; a < mine.size(); a++) {
                for (int b = 0; b < theirs.size(); b++) {
                    if (worthOf(lead(state, mine.get(a), theirs.get(b)), known) == worthOf(state, known)) {
                        return a * 256 + b;
                    }
                }
            }
        } catch (Beyond e) {
            throw new AssertionError(e);
        }
        throw new AssertionError("no best move");
    }
}
