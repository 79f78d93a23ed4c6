import java.util.Arrays;
import java.util.NoSuchElementException;

/** Games of two that are told by rules in clauses: read, looked through, played, audited and searched. */
public final class RuleArena {
    public static final int NONE = -1;

    private static final int SHEET_MOST = 240;
    private static final int RULES_MOST = 24;
    private static final int LITERALS_MOST = 5;
    private static final int STATE_MOST = 24;

    // A keyword's relation is its place in this text; the names' relations come behind, four for each letter.
    private static final String KEYWORDS = "RITNDLGE";
    private static final int[] KEYWORD_TERMS = {1, 1, 1, 1, 2, 2, 2, 0};
    private static final int ROLE = 0;
    private static final int INITIAL = 1;
    private static final int TRUE = 2;
    private static final int NEXT = 3;
    private static final int DOES = 4;
    private static final int LEGAL = 5;
    private static final int GOAL = 6;
    private static final int END = 7;
    private static final int NAMES = 8;
    private static final int NAME_TERMS = 3;
    private static final int RELATIONS = NAMES + 26 * (NAME_TERMS + 1);

    private final char[] sheet = new char[SHEET_MOST + 1];
    private int length;
    private int faultKind;
    private int faultPlace;
    private final Reader reader = new Reader();
    private final Game game = new Game();
    private final Audit review = new Audit();

    public RuleArena() {
        length = 0;
    }

    public boolean write(long eight) {
        int more = 0;
        for (int shift = 56; shift >= 0; shift -= 8) {
            int code = (int) (eight >>> shift) & 255;
            if (code != 0 && (code < 32 || code > 126)) {
                return false;
            }
            more += code != 0 ? 1 : 0;
        }
        if (length + more > SHEET_MOST) {
            return false;
        }
        for (int shift = 56; shift >= 0; shift -= 8) {
            int code = (int) (eight >>> shift) & 255;
            if (code != 0) {
                sheet[length] = (char) code;
                length++;
            }
        }
        return true;
    }

    public void wipe() {
        length = 0;
    }

    public int load() throws IllegalArgumentException, UnsupportedOperationException, IllegalStateException {
        int end = length;
        length = 0;
        faultKind = 0;
        faultPlace = 0;
        Rules fresh = reader.read(sheet, end);
        if (fresh == null) {
            faultKind = 1;
            faultPlace = reader.place();
            throw new IllegalArgumentException();
        }
        fresh.trace();
        for (int kind = 2; kind <= 5; kind++) {
            int place = fresh.placeOf(kind);
            if (place != NONE) {
                faultKind = kind;
                faultPlace = place;
                throw new UnsupportedOperationException();
            }
        }
        if (!game.take(new Layers(fresh))) {
            throw new IllegalStateException();
        }
        review.forget();
        return fresh.size;
    }

    public int fault(int what) {
        switch (what) {
            case 0:
                return faultKind;
            case 1:
                return faultPlace;
            default:
                return NONE;
        }
    }

    public int many(int what) {
        switch (what) {
            case 0:
                return game.roles.size;
            case 1:
                return game.state.size;
            case 2:
                return review.came;
            default:
                return NONE;
        }
    }

    public int facts(char name, int terms) {
        int relation = Literal.relationOf(name, terms);
        return game.isIdle() || relation == NONE ? 0 : game.follows.facts.count[relation];
    }

    public int moves(int player) {
        return game.hasPlayer(player) ? game.movesOf(player).size : NONE;
    }

    public int over() {
        if (game.isIdle()) {
            return NONE;
        }
        return game.end ? 1 : 0;
    }

    public int goal(int player) {
        return game.hasPlayer(player) ? game.goalOf(player) : NONE;
    }

    public int letter(int what, int k, int i) {
        switch (what) {
            case 0:
                return Term.character(game.roles.at(k), i);
            case 1:
                return Term.character(game.state.at(k), i);
            case 2:
            case 3:
                return Term.character(game.movesOf(what - 2).at(k), i);
            default:
                return NONE;
        }
    }

    public int play(int a, int b) throws IllegalStateException, IndexOutOfBoundsException {
        if (game.isIdle() || game.roles.size != 2 || game.end) {
            throw new IllegalStateException();
        }
        if (game.movesOf(0).at(a) == 0 || game.movesOf(1).at(b) == 0) {
            throw new IndexOutOfBoundsException();
        }
        if (!game.advance(a, b)) {
            throw new IllegalStateException();
        }
        return game.state.size;
    }

    public boolean restart() {
        if (game.isIdle()) {
            return false;
        }
        game.goBack();
        return true;
    }

    public int audit() throws IllegalStateException {
        if (game.isIdle()) {
            throw new IllegalStateException();
        }
        return review.run(game);
    }

    public int worth() throws IllegalStateException, UnsupportedOperationException {
        if (game.isIdle()) {
            throw new IllegalStateException();
        }
        if (review.run(game) != Audit.SOUND) {
            throw new UnsupportedOperationException();
        }
        return review.valueAt(game.state);
    }

    public int best() throws IllegalStateException, UnsupportedOperationException, NoSuchElementException {
        if (game.isIdle()) {
            throw new IllegalStateException();
        }
        if (review.run(game) != Audit.SOUND) {
            throw new UnsupportedOperationException();
        }
        if (game.end) {
            throw new NoSuchElementException();
        }
        return review.choiceAt(game.state);
    }

    /**
     * A term is one number: four characters of seven bits, the first on top, the parts of a compound below,
     * 0 where there is none. So the numbers of ground terms are ordered as their texts are.
     */
    private static final class Term {
        static final int TOP = 21;
        static final int WIDTH = 7;
        static final int MASK = 127;
        static final int PARTS = (1 << TOP) - 1;
        static final int VARIABLES = 6;
        // In a planned rule a variable is 1 .. 6 where it is met first (a match binds it there), else 7 .. 12.
        static final int FRESH_LAST = VARIABLES;
        static final int BOUND_LAST = 2 * VARIABLES;

        static boolean isLetter(int c) {
            return c >= 'a' && c <= 'z';
        }

        static boolean isVariable(int c) {
            return c >= 'U' && c <= 'Z';
        }

        /** A variable or a constant: what may stand in a compound. */
        static boolean isPlain(int c) {
            return c >= 'a' && c <= 'z' || c >= 'U' && c <= 'Z' || c >= '0' && c <= '9';
        }

        /** A bit for each variable of the term. */
        static int variables(int term) {
            int found = 0;
            for (int shift = TOP; shift >= 0; shift -= WIDTH) {
                int c = term >>> shift & MASK;
                if (isVariable(c)) {
                    found |= 1 << (c - 'U');
                }
            }
            return found;
        }

        /** The term as a planned rule has it. */
        static int plan(int term, int unbound) {
            int planned = term;
            int left = unbound;
            for (int shift = TOP; shift >= 0; shift -= WIDTH) {
                int c = term >>> shift & MASK;
                if (isVariable(c)) {
                    int code = c - 'U' + 1;
                    int bit = 1 << (c - 'U');
                    planned += (((left & bit) != 0 ? code : code + VARIABLES) - c) << shift;
                    left &= ~bit;
                }
            }
            return planned;
        }

        /** Character i of a ground term's text; the term 0 has none. */
        static int character(int term, int i) {
            int parts = 0;
            for (int shift = TOP - WIDTH; shift >= 0; shift -= WIDTH) {
                parts += (term >>> shift & MASK) != 0 ? 1 : 0;
            }
            int last = parts == 0 ? 0 : 2 * parts + 1;
            if (term == 0 || i < 0 || i > last) {
                return NONE;
            }
            if (i % 2 == 0) {
                return term >>> (TOP - WIDTH * (i / 2)) & MASK;
            }
            if (i == 1) {
                return '(';
            }
            return i == last ? ')' : ',';
        }
    }

    /** Ground terms in their order, each once. */
    private static final class Terms {
        private final int[] row;
        private int size;

        Terms(int most) {
            row = new int[most];
        }

        /** The k-th term, 0 if there is none. */
        int at(int k) {
            return k >= 0 && k < size ? row[k] : 0;
        }

        void clear() {
            size = 0;
        }

        void copy(Terms other) {
            size = Math.min(other.size, row.length);
            System.arraycopy(other.row, 0, row, 0, size);
        }

        boolean isSame(Terms other) {
            if (size != other.size) {
                return false;
            }
            for (int k = 0; k < size; k++) {
                if (row[k] != other.row[k]) {
                    return false;
                }
            }
            return true;
        }

        /** False if there is no room. */
        boolean insert(int term) {
            int from = 0;
            int to = size;
            while (from < to) {
                int middle = (from + to) >>> 1;
                if (row[middle] < term) {
                    from = middle + 1;
                } else {
                    to = middle;
                }
            }
            if (from < size && row[from] == term) {
                return true;
            }
            if (size == row.length) {
                return false;
            }
            System.arraycopy(row, from, row, from + 1, size - from);
            row[from] = term;
            size++;
            return true;
        }

        /** Takes the terms of all facts of a relation with one; false if there is no room. */
        boolean collect(Facts facts, int relation) {
            size = 0;
            for (int f = facts.newest[relation]; f > 0; f = facts.older[f]) {
                if (!insert(facts.a[f])) {
                    return false;
                }
            }
            return true;
        }

        /** Takes the moves of all legal facts of a role. */
        void collectMoves(Facts facts, int role) {
            size = 0;
            for (int f = facts.newest[LEGAL]; f > 0; f = facts.older[f]) {
                if (facts.a[f] == role) {
                    insert(facts.b[f]);
                }
            }
        }
    }

    /** An atom, an atom with ~, or two terms with # between; also a rule's head. */
    private static final class Literal {
        static final int HOLDS = 0;
        static final int FAILS = 1;
        static final int UNLIKE = 2;

        final int kind;
        final int relation;
        int a;
        int b;
        int c;
        // Set by the rule's plan: no variable is left unbound at its turn; the head has no unbound one left.
        boolean known;
        boolean once;

        Literal(int kind, int relation, int a, int b, int c) {
            this.kind = kind;
            this.relation = relation;
            this.a = a;
            this.b = b;
            this.c = c;
        }

        static int relationOf(char name, int terms) {
            int keyword = KEYWORDS.indexOf(name);
            if (keyword >= 0) {
                return KEYWORD_TERMS[keyword] == terms ? keyword : NONE;
            }
            if (!Term.isLetter(name) || terms < 0 || terms > NAME_TERMS) {
                return NONE;
            }
            return NAMES + (name - 'a') * (NAME_TERMS + 1) + terms;
        }

        int variables() {
            return Term.variables(a) | Term.variables(b) | Term.variables(c);
        }

        /** The variables that stand in compounds. */
        int partVariables() {
            return Term.variables(a & Term.PARTS) | Term.variables(b & Term.PARTS) | Term.variables(c & Term.PARTS);
        }

        /** The atom read as a term, 0 if it can be none. */
        int asTerm() {
            if (relation < NAMES || ((a | b | c) & Term.PARTS) != 0) {
                return 0;
            }
            int name = 'a' + (relation - NAMES) / (NAME_TERMS + 1);
            return name << Term.TOP | a >>> Term.WIDTH | b >>> (2 * Term.WIDTH) | c >>> (3 * Term.WIDTH);
        }

        void plan(int unbound) {
            int behindFirst = unbound & ~Term.variables(a);
            int behindSecond = behindFirst & ~Term.variables(b);
            a = Term.plan(a, unbound);
            b = Term.plan(b, behindFirst);
            c = Term.plan(c, behindSecond);
        }
    }

    private static final class Rule {
        private static final int READY = 100;
        private static final int BOUND_TERM = 10;
        private static final int WANTED = 5;
        private static final int COMPOUND = 4;

        final Literal head;
        final Literal[] body = new Literal[LITERALS_MOST];
        int size;
        // The variables that constants alone may stand for.
        int flat;

        Rule(Literal head) {
            this.head = head;
        }

        void append(Literal literal) {
            if (size < LITERALS_MOST) {
                body[size] = literal;
                size++;
            }
        }

        /** Fault 2. */
        boolean isMisplaced() {
            for (int k = 0; k < size; k++) {
                if (body[k].relation == INITIAL || body[k].relation == NEXT) {
                    return true;
                }
            }
            if (head.relation == ROLE) {
                return size > 0 || head.variables() != 0;
            }
            return head.relation == TRUE || head.relation == DOES;
        }

        /** Fault 3. */
        boolean isLoose() {
            int given = 0;
            int needed = head.variables();
            for (int k = 0; k < size; k++) {
                if (body[k].kind == Literal.HOLDS) {
                    given |= body[k].variables();
                } else {
                    needed |= body[k].variables();
                }
            }
            return (needed & ~given) != 0;
        }

        boolean asks(int relation) {
            for (int k = 0; k < size; k++) {
                if (body[k].relation == relation) {
                    return true;
                }
            }
            return false;
        }

        /** A bit for each keyword in the body. */
        int keywords() {
            int found = 0;
            for (int k = 0; k < size; k++) {
                int relation = body[k].relation;
                if (relation >= 0 && relation < NAMES) {
                    found |= 1 << relation;
                }
            }
            return found;
        }

        /** Puts the literals in an order in which few facts are tried: tests as early as their variables are bound. */
        void plan() {
            int unbound = (1 << Term.VARIABLES) - 1;
            int wanted = head.variables();
            flat = head.partVariables();
            for (int k = 0; k < size; k++) {
                flat |= body[k].partVariables();
            }
            for (int step = 0; step < size; step++) {
                Literal next = bring(step, unbound, wanted);
                int fresh = next.variables() & unbound;
                next.known = fresh == 0;
                next.once = (wanted & unbound) == 0;
                next.plan(unbound);
                unbound &= ~fresh;
            }
            head.plan(0);
        }

        private Literal bring(int step, int unbound, int wanted) {
            int pick = step;
            int most = -1;
            for (int k = step; k < size; k++) {
                int merit = meritOf(body[k], unbound, wanted);
                if (merit > most) {
                    most = merit;
                    pick = k;
                }
            }
            Literal picked = body[pick];
            for (int k = pick; k > step; k--) {
                body[k] = body[k - 1];
            }
            body[step] = picked;
            return picked;
        }

        private static int meritOf(Literal literal, int unbound, int wanted) {
            int fresh = literal.variables() & unbound;
            if (fresh == 0) {
                return READY;
            }
            if (literal.kind != Literal.HOLDS) {
                return -1;
            }
            int sum = termMerit(literal.a, unbound) + termMerit(literal.b, unbound) + termMerit(literal.c, unbound);
            return (fresh & wanted) != 0 ? sum + WANTED : sum;
        }

        private static int termMerit(int term, int unbound) {
            if (term == 0) {
                return 0;
            }
            if ((Term.variables(term) & unbound) == 0) {
                return BOUND_TERM;
            }
            return (term & Term.PARTS) != 0 ? COMPOUND : 0;
        }
    }

    /** Reads a sheet. `at` is the next character, and stays at the first one that can't stand there. */
    private static final class Reader {
        private char[] text;
        private int at;
        private final int[] terms = new int[NAME_TERMS];

        Reader() {
            text = null;
        }

        int place() {
            return at;
        }

        /** The rules, null if the text is not as told. */
        Rules read(char[] sheet, int end) {
            text = sheet;
            // No character is 0, so at the end nothing is taken and no index goes further.
            text[end] = 0;
            at = 0;
            Rules rules = new Rules();
            for (int k = 0; k < RULES_MOST; k++) {
                Rule rule = readRule();
                if (rule == null) {
                    return null;
                }
                rules.append(rule);
                if (at == end) {
                    return rules;
                }
            }
            return null;
        }

        private boolean take(char c) {
            if (text[at] != c) {
                return false;
            }
            at++;
            return true;
        }

        private Rule readRule() {
            Literal head = readAtom(Literal.HOLDS);
            if (head == null) {
                return null;
            }
            Rule rule = new Rule(head);
            if (take(':') && !readBody(rule)) {
                return null;
            }
            return take('.') ? rule : null;
        }

        private boolean readBody(Rule rule) {
            for (int k = 0; k < LITERALS_MOST; k++) {
                Literal literal = readLiteral();
                if (literal == null) {
                    return false;
                }
                rule.append(literal);
                if (!take(',')) {
                    return true;
                }
            }
            return false;
        }

        private Literal readLiteral() {
            if (take('~')) {
                return readAtom(Literal.FAILS);
            }
            if (Term.isPlain(text[at]) && !Term.isLetter(text[at])) {
                return readUnlike(readTerm());
            }
            // Only a # behind it tells a term from an atom, so both are read as atoms.
            Literal atom = readAtom(Literal.HOLDS);
            if (atom == null || text[at] != '#' || atom.asTerm() == 0) {
                return atom;
            }
            return readUnlike(atom.asTerm());
        }

        private Literal readUnlike(int left) {
            if (!take('#')) {
                return null;
            }
            int right = readTerm();
            return right == 0 ? null : new Literal(Literal.UNLIKE, NONE, left, right, 0);
        }

        private Literal readAtom(int kind) {
            char name = text[at];
            int keyword = KEYWORDS.indexOf(name);
            if (keyword < 0 && !Term.isLetter(name)) {
                return null;
            }
            at++;
            int least = keyword < 0 ? 0 : KEYWORD_TERMS[keyword];
            int most = keyword < 0 ? NAME_TERMS : least;
            int count = 0;
            Arrays.fill(terms, 0);
            if (most > 0 && take('(')) {
                do {
                    terms[count] = readTerm();
                    if (terms[count] == 0) {
                        return null;
                    }
                    count++;
                } while (count < most && take(','));
                if (count < least || !take(')')) {
                    return null;
                }
            }
            if (count < least) {
                return null;
            }
            return new Literal(kind, Literal.relationOf(name, count), terms[0], terms[1], terms[2]);
        }

        /** The next term, 0 if there stands none. */
        private int readTerm() {
            char first = text[at];
            if (!Term.isPlain(first)) {
                return 0;
            }
            at++;
            int term = first << Term.TOP;
            if (!Term.isLetter(first) || !take('(')) {
                return term;
            }
            int shift = Term.TOP;
            do {
                shift -= Term.WIDTH;
                if (!Term.isPlain(text[at])) {
                    return 0;
                }
                term |= text[at] << shift;
                at++;
            } while (shift > 0 && take(','));
            return take(')') ? term : 0;
        }
    }

    /** The rules as they stand on the sheet, and which rules' heads each head depends on: a bit for each rule. */
    private static final class Rules {
        final Rule[] rules = new Rule[RULES_MOST];
        int size;
        // Of rule i: those with the same head, those whose heads it depends on, the keywords that it depends on.
        final int[] alike = new int[RULES_MOST];
        final int[] under = new int[RULES_MOST];
        final int[] keywords = new int[RULES_MOST];

        Rules() {
            size = 0;
        }

        void append(Rule rule) {
            if (size < RULES_MOST) {
                rules[size] = rule;
                size++;
            }
        }

        void trace() {
            for (int k = 0; k < size; k++) {
                int heads = headsIn(rules[k]);
                for (int i = 0; i < size; i++) {
                    if (rules[k].head.relation == rules[i].head.relation) {
                        alike[i] |= 1 << k;
                        under[i] |= heads;
                    }
                }
            }
            for (int k = 0; k < size; k++) {
                for (int i = 0; i < size; i++) {
                    if ((under[i] >>> k & 1) != 0) {
                        under[i] |= under[k];
                    }
                }
            }
            for (int i = 0; i < size; i++) {
                for (int k = 0; k < size; k++) {
                    if (((alike[i] | under[i]) >>> k & 1) != 0) {
                        keywords[i] |= rules[k].keywords();
                    }
                }
            }
        }

        private int headsIn(Rule rule) {
            int found = 0;
            for (int k = 0; k < size; k++) {
                if (rule.asks(rules[k].head.relation)) {
                    found |= 1 << k;
                }
            }
            return found;
        }

        /** The first rule with a fault, NONE if there is none. */
        int placeOf(int kind) {
            for (int i = 0; i < size; i++) {
                if (hasFault(kind, i)) {
                    return i;
                }
            }
            return NONE;
        }

        private boolean hasFault(int kind, int i) {
            switch (kind) {
                case 2:
                    return rules[i].isMisplaced();
                case 3:
                    return rules[i].isLoose();
                case 4:
                    return deniesItself(i);
                default:
                    return looksAhead(i);
            }
        }

        /** Fault 4. A head in its own body depends on itself, so that case needs no question of its own. */
        private boolean deniesItself(int i) {
            for (int s = 0; s < rules[i].size; s++) {
                Literal literal = rules[i].body[s];
                for (int k = 0; k < size && literal.kind == Literal.FAILS; k++) {
                    if (rules[k].head.relation == literal.relation && (under[k] >>> i & 1) != 0) {
                        return true;
                    }
                }
            }
            return false;
        }

        /** Fault 5. */
        private boolean looksAhead(int i) {
            switch (rules[i].head.relation) {
                case INITIAL:
                    return (keywords[i] & (1 << TRUE | 1 << DOES | 1 << LEGAL | 1 << GOAL | 1 << END)) != 0;
                case LEGAL:
                case GOAL:
                case END:
                    return (keywords[i] & 1 << DOES) != 0;
                default:
                    return false;
            }
        }
    }

    /**
     * Faultless rules in the order in which they are run. A layer is a set of heads that depend on one another.
     * Stage 0 depends neither on T nor on D, stage 1 on T, stage 2 on D: so what is the same for all states
     * is worked out once, and what is the same for all moves of a state once for it.
     */
    private static final class Layers {
        static final int STAGES = 3;

        final Rule[] order = new Rule[RULES_MOST];
        final int[] start = new int[RULES_MOST + 1];
        final int[] stageEnd = new int[STAGES];
        private int recursive;

        Layers(Rules rules) {
            long[] keys = new long[RULES_MOST];
            int[] numbers = new int[RULES_MOST];
            sort(rules, keys, numbers);
            int layers = 0;
            for (int k = 0; k < rules.size; k++) {
                int number = numbers[k];
                order[k] = rules.rules[number];
                order[k].plan();
                if (k == 0 || keys[k] != keys[k - 1]) {
                    start[layers] = k;
                    recursive |= (rules.under[number] >>> number & 1) << layers;
                    layers++;
                }
                for (int stage = stageOf(rules, number); stage < STAGES; stage++) {
                    stageEnd[stage] = layers;
                }
            }
            start[layers] = rules.size;
        }

        private static void sort(Rules rules, long[] keys, int[] numbers) {
            for (int i = 0; i < rules.size; i++) {
                long key = keyOf(rules, i);
                int place = i;
                while (place > 0 && keys[place - 1] > key) {
                    keys[place] = keys[place - 1];
                    numbers[place] = numbers[place - 1];
                    place--;
                }
                keys[place] = key;
                numbers[place] = i;
            }
        }

        /** Heads of one layer reach the same rules; one that depends on another layer reaches more than that does. */
        private static long keyOf(Rules rules, int i) {
            int reached = rules.alike[i] | rules.under[i];
            return (long) stageOf(rules, i) << 40 | (long) Integer.bitCount(reached) << 32 | reached;
        }

        private static int stageOf(Rules rules, int i) {
            if ((rules.keywords[i] & 1 << DOES) != 0) {
                return 2;
            }
            return (rules.keywords[i] & 1 << TRUE) != 0 ? 1 : 0;
        }

        boolean isRecursive(int layer) {
            return (recursive >>> layer & 1) != 0;
        }
    }

    /** Facts, numbered from 1 as they come. The latest can be taken back: all chains go from the newest to the oldest. */
    private static final class Facts {
        static final int MOST = 200;
        private static final int SLOTS = 256;

        final int[] relation = new int[MOST + 1];
        final int[] a = new int[MOST + 1];
        final int[] b = new int[MOST + 1];
        final int[] c = new int[MOST + 1];
        final int[] older = new int[MOST + 1];
        final int[] newest = new int[RELATIONS];
        final int[] count = new int[RELATIONS];
        private final int[] slots = new int[SLOTS];
        private final int[] below = new int[MOST + 1];
        int size;
        boolean beyond;

        Facts() {
            size = 0;
        }

        /** The number of a fact, 0 if it does not follow. */
        int find(int of, int first, int second, int third) {
            return search(slotOf(of, first, second, third), of, first, second, third);
        }

        void add(int of, int first, int second, int third) {
            int slot = slotOf(of, first, second, third);
            if (search(slot, of, first, second, third) != 0) {
                return;
            }
            if (size == MOST) {
                beyond = true;
                return;
            }
            size++;
            relation[size] = of;
            a[size] = first;
            b[size] = second;
            c[size] = third;
            older[size] = newest[of];
            newest[of] = size;
            count[of]++;
            below[size] = slots[slot];
            slots[slot] = size;
        }

        private int search(int slot, int of, int first, int second, int third) {
            for (int f = slots[slot]; f > 0; f = below[f]) {
                if (a[f] == first && b[f] == second && relation[f] == of && c[f] == third) {
                    return f;
                }
            }
            return 0;
        }

        private static int slotOf(int of, int first, int second, int third) {
            int mixed = ((of * 31 + first) * 31 + second) * 31 + third;
            return (mixed * 0x9E3779B1) >>> 24;
        }

        /** Takes back all facts but the oldest ones. */
        void cut(int left) {
            for (int f = size; f > left; f--) {
                int of = relation[f];
                newest[of] = older[f];
                count[of]--;
                slots[slotOf(of, a[f], b[f], c[f])] = below[f];
            }
            size = Math.min(size, left);
            beyond = false;
        }
    }

    /** What follows: from nothing, in a state, by a joint move. Each call answers whether it is not BEYOND. */
    private static final class Follows {
        private static final long PRODUCT_MOST = 100000;
        private static final int NO_STEP = -1;

        final Facts facts = new Facts();
        private Layers layers;
        private int fixedSize;
        private int stateSize;
        // What the codes 7 .. 12 of variables stand for; that of the code 0, no term, is always 0.
        private final int[] bound = new int[Term.BOUND_LAST + 1];
        // In this step of the rule only facts from `low` on count, ahead of it only those below; none above `high`.
        private int newStep;
        private int low;
        private int high;

        Follows() {
            layers = null;
        }

        /** What follows in every state alike. */
        boolean begin(Layers fresh) {
            layers = fresh;
            facts.cut(0);
            for (int layer = 0; layer < layers.stageEnd[0]; layer++) {
                close(layer);
            }
            fixedSize = facts.size;
            return !facts.beyond;
        }

        boolean inState(Terms state) {
            facts.cut(fixedSize);
            for (int k = 0; k < state.size; k++) {
                facts.add(TRUE, state.row[k], 0, 0);
            }
            for (int layer = layers.stageEnd[0]; layer < layers.stageEnd[1]; layer++) {
                close(layer);
            }
            stateSize = facts.size;
            for (int layer = layers.stageEnd[1]; layer < layers.stageEnd[2]; layer++) {
                close(layer);
            }
            return !facts.beyond;
        }

        /** In the state that was looked at last. */
        boolean byMove(int role, int move, int otherRole, int otherMove) {
            facts.cut(stateSize);
            facts.add(DOES, role, move, 0);
            facts.add(DOES, otherRole, otherMove, 0);
            for (int layer = layers.stageEnd[1]; layer < layers.stageEnd[2]; layer++) {
                close(layer);
            }
            return !facts.beyond;
        }

        /** Runs the rules of a layer until nothing new comes; behind the first round only on what the last one brought. */
        private void close(int layer) {
            int before = 0;
            for (int round = 0; round <= Facts.MOST; round++) {
                low = before + 1;
                high = facts.size;
                for (int r = layers.start[layer]; r < layers.start[layer + 1]; r++) {
                    Rule rule = layers.order[r];
                    int last = round == 0 ? NO_STEP : rule.size - 1;
                    for (int step = round == 0 ? NO_STEP : 0; step <= last; step++) {
                        if (isDue(rule, step)) {
                            newStep = step;
                            join(rule, 0);
                        }
                    }
                }
                if (facts.beyond || facts.size == high || !layers.isRecursive(layer)) {
                    return;
                }
                before = high;
            }
        }

        /** As counts only grow, a product that is too large now is so in the end; the last one is seen here, too. */
        private boolean isDue(Rule rule, int step) {
            if (facts.beyond) {
                return false;
            }
            if (step != NO_STEP) {
                Literal literal = rule.body[step];
                if (literal.kind != Literal.HOLDS || facts.newest[literal.relation] < low) {
                    return false;
                }
            }
            long product = 1;
            for (int k = 0; k < rule.size; k++) {
                if (rule.body[k].kind == Literal.HOLDS) {
                    product *= facts.count[rule.body[k].relation];
                }
            }
            facts.beyond = product > PRODUCT_MOST;
            return product > 0 && !facts.beyond;
        }

        /** Goes on with a literal of the rule, at most five deep; true if the head was reached. */
        private boolean join(Rule rule, int step) {
            if (step >= rule.size) {
                Literal head = rule.head;
                facts.add(head.relation, fill(head.a), fill(head.b), fill(head.c));
                return true;
            }
            Literal literal = rule.body[step];
            if (literal.kind == Literal.UNLIKE) {
                return fill(literal.a) != fill(literal.b) && join(rule, step + 1);
            }
            if (!literal.known) {
                return joinEach(rule, step);
            }
            int f = facts.find(literal.relation, fill(literal.a), fill(literal.b), fill(literal.c));
            if (literal.kind == Literal.FAILS) {
                return f == 0 && join(rule, step + 1);
            }
            return f >= lowest(step) && f <= highest(step) && join(rule, step + 1);
        }

        private boolean joinEach(Rule rule, int step) {
            Literal literal = rule.body[step];
            int from = lowest(step);
            int to = highest(step);
            boolean reached = false;
            for (int f = facts.newest[literal.relation]; f >= from; f = facts.older[f]) {
                if (f <= to && fits(literal.a, facts.a[f], rule.flat) && fits(literal.b, facts.b[f], rule.flat)
                        && fits(literal.c, facts.c[f], rule.flat) && join(rule, step + 1)) {
                    if (literal.once || facts.beyond) {
                        return true;
                    }
                    reached = true;
                }
            }
            return reached;
        }

        private int lowest(int step) {
            return step == newStep ? low : 1;
        }

        private int highest(int step) {
            return step < newStep ? low - 1 : high;
        }

        /** The ground term that the rule's term stands for now. */
        private int fill(int term) {
            int top = term >>> Term.TOP;
            if (top <= Term.BOUND_LAST) {
                return bound[top];
            }
            int filled = term;
            for (int shift = Term.TOP - Term.WIDTH; shift >= 0 && (term & Term.PARTS) != 0; shift -= Term.WIDTH) {
                int part = term >>> shift & Term.MASK;
                if (part <= Term.BOUND_LAST) {
                    filled += ((bound[part] >>> Term.TOP) - part) << shift;
                }
            }
            return filled;
        }

        /** Whether a fact's term can be the rule's term; binds the variables that are met first there. */
        private boolean fits(int term, int ground, int flat) {
            if (term == ground) {
                return true;
            }
            int top = term >>> Term.TOP;
            if (top <= Term.FRESH_LAST) {
                bound[top + Term.VARIABLES] = ground;
                return (flat & 1 << (top - 1)) == 0 || (ground & Term.PARTS) == 0;
            }
            if (top <= Term.BOUND_LAST) {
                return bound[top] == ground;
            }
            boolean fit = top == ground >>> Term.TOP;
            for (int shift = Term.TOP - Term.WIDTH; shift >= 0 && fit; shift -= Term.WIDTH) {
                int part = term >>> shift & Term.MASK;
                int other = ground >>> shift & Term.MASK;
                if (part == 0 || other == 0 || part > Term.BOUND_LAST) {
                    fit = part == other;
                } else if (part <= Term.FRESH_LAST) {
                    bound[part + Term.VARIABLES] = other << Term.TOP;
                } else {
                    fit = bound[part] == other << Term.TOP;
                }
            }
            return fit;
        }
    }

    /** The rules in use, their roles, the state, and what players have in the state that was looked at last. */
    private static final class Game {
        private Layers layers;
        final Follows follows = new Follows();
        final Terms roles = new Terms(RULES_MOST);
        private final Terms first = new Terms(STATE_MOST);
        final Terms state = new Terms(STATE_MOST);
        private final Terms next = new Terms(STATE_MOST);
        private final Terms moves = new Terms(Facts.MOST);
        private final Terms otherMoves = new Terms(Facts.MOST);
        boolean end;

        Game() {
            layers = null;
        }

        /** Whether there are no rules. */
        boolean isIdle() {
            return layers == null;
        }

        /** Begins with other rules; false, and all is as it was, if they are BEYOND. */
        boolean take(Layers fresh) {
            next.clear();
            if (follows.begin(fresh) && follows.inState(next) && next.collect(follows.facts, INITIAL)
                    && follows.inState(next)) {
                layers = fresh;
                first.copy(next);
                state.copy(next);
                roles.collect(follows.facts, ROLE);
                seeMoves();
                return true;
            }
            if (layers != null) {
                follows.begin(layers);
                look(state);
            }
            return false;
        }

        /** False if what follows in the state is BEYOND. */
        boolean look(Terms at) {
            if (!follows.inState(at)) {
                return false;
            }
            seeMoves();
            return true;
        }

        private void seeMoves() {
            end = follows.facts.count[END] > 0;
            // No role has the number 0, so of a player who is not there no move is found.
            moves.collectMoves(follows.facts, roles.at(0));
            otherMoves.collectMoves(follows.facts, roles.at(1));
        }

        void goBack() {
            state.copy(first);
            look(state);
        }

        /** The state to which a joint move leads from the one looked at last comes into `next`; false if BEYOND. */
        boolean lead(int a, int b) {
            return follows.byMove(roles.at(0), moves.at(a), roles.at(1), otherMoves.at(b))
                    && next.collect(follows.facts, NEXT);
        }

        /** False, and the state stays, if what comes is BEYOND. */
        boolean advance(int a, int b) {
            if (lead(a, b) && look(next)) {
                state.copy(next);
                return true;
            }
            look(state);
            return false;
        }

        boolean hasPlayer(int player) {
            return player >= 0 && player < Math.min(2, roles.size);
        }

        Terms movesOf(int player) {
            return player == 0 ? moves : otherMoves;
        }

        int goalOf(int player) {
            Facts facts = follows.facts;
            int sole = 0;
            for (int f = facts.newest[GOAL]; f > 0; f = facts.older[f]) {
                if (facts.a[f] == roles.at(player)) {
                    if (sole != 0) {
                        return NONE;
                    }
                    sole = facts.b[f];
                }
            }
            int digit = (sole >>> Term.TOP) - '0';
            return (sole & Term.PARTS) == 0 && digit >= 0 && digit <= 8 ? digit : NONE;
        }
    }

    /** The states that come up, in their order, with the joint moves between them and what each state is worth. */
    private static final class Audit {
        static final int SOUND = 0;
        private static final int NOT_TWO = 1;
        private static final int NO_MOVE = 2;
        private static final int BOTH_CHOOSE = 3;
        private static final int NO_GOAL = 4;
        private static final int NOT_EIGHT = 5;
        private static final int CIRCLE = 6;
        private static final int TOO_MUCH = 7;
        private static final int STATES_MOST = 60;
        private static final int GOALS_TOGETHER = 8;

        private final Terms[] states = new Terms[STATES_MOST];
        // From state s to state t, at s * 60 + t: the first joint move as best() tells it.
        private final int[] ways = new int[STATES_MOST * STATES_MOST];
        private final int[] values = new int[STATES_MOST];
        private final boolean[] least = new boolean[STATES_MOST];
        int came;
        private boolean made;
        private int outcome;

        Audit() {
            for (int s = 0; s < STATES_MOST; s++) {
                states[s] = new Terms(STATE_MOST);
            }
        }

        void forget() {
            made = false;
            came = 0;
        }

        /** What the audit is over with. It is the same as long as the rules are, so it is made once. */
        int run(Game game) {
            if (made) {
                return outcome;
            }
            made = true;
            came = 1;
            states[0].copy(game.first);
            Arrays.fill(ways, NONE);
            outcome = game.roles.size == 2 ? SOUND : NOT_TWO;
            for (int s = 0; s < came && outcome == SOUND; s++) {
                outcome = game.look(states[s]) ? judge(game, s) : TOO_MUCH;
                // At an end no joint move is made, so none is gone through there.
                int firsts = game.end ? 0 : game.moves.size;
                for (int a = 0; a < firsts && outcome == SOUND; a++) {
                    for (int b = 0; b < game.otherMoves.size && outcome == SOUND; b++) {
                        outcome = game.lead(a, b) && note(s, a << 8 | b, game.next) ? SOUND : TOO_MUCH;
                    }
                }
            }
            if (outcome == SOUND && !weigh()) {
                outcome = CIRCLE;
            }
            game.look(game.state);
            return outcome;
        }

        /** The faults of one state. */
        private int judge(Game game, int s) {
            values[s] = NONE;
            least[s] = game.otherMoves.size > 1;
            if (game.end) {
                int goal = game.goalOf(0);
                int otherGoal = game.goalOf(1);
                if (goal == NONE || otherGoal == NONE) {
                    return NO_GOAL;
                }
                values[s] = goal;
                return goal + otherGoal == GOALS_TOGETHER ? SOUND : NOT_EIGHT;
            }
            if (game.moves.size == 0 || game.otherMoves.size == 0) {
                return NO_MOVE;
            }
            return game.moves.size > 1 && game.otherMoves.size > 1 ? BOTH_CHOOSE : SOUND;
        }

        /** False if the state would be one too many. */
        private boolean note(int s, int move, Terms reached) {
            int t = placeOf(reached);
            if (t == NONE) {
                if (came == STATES_MOST) {
                    return false;
                }
                t = came;
                states[t].copy(reached);
                came++;
            }
            if (ways[s * STATES_MOST + t] == NONE) {
                ways[s * STATES_MOST + t] = move;
            }
            return true;
        }

        private int placeOf(Terms state) {
            for (int s = 0; s < came; s++) {
                if (states[s].isSame(state)) {
                    return s;
                }
            }
            return NONE;
        }

        /** Works from the ends back. False if states are left over: they lead to one another without an end. */
        private boolean weigh() {
            int left = came;
            for (int round = 0; round < came && left > 0; round++) {
                left = 0;
                for (int s = came - 1; s >= 0; s--) {
                    if (values[s] == NONE) {
                        values[s] = valueBehind(s);
                        left += values[s] == NONE ? 1 : 0;
                    }
                }
            }
            return left == 0;
        }

        /** NONE as long as one of the states behind has no value. */
        private int valueBehind(int s) {
            int value = NONE;
            for (int t = 0; t < came; t++) {
                if (ways[s * STATES_MOST + t] != NONE) {
                    if (values[t] == NONE) {
                        return NONE;
                    }
                    if (value == NONE) {
                        value = values[t];
                    }
                    value = least[s] ? Math.min(value, values[t]) : Math.max(value, values[t]);
                }
            }
            return value;
        }

        int valueAt(Terms state) {
            int s = placeOf(state);
            return s == NONE ? NONE : values[s];
        }

        int choiceAt(Terms state) {
            int s = placeOf(state);
            int choice = NONE;
            for (int t = 0; t < came && s != NONE; t++) {
                int way = ways[s * STATES_MOST + t];
                if (way != NONE && values[t] == values[s] && (choice == NONE || way < choice)) {
                    choice = way;
                }
            }
            return choice;
        }
    }
}
