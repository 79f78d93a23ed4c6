/** The sheet, its text, its faults and the loading: each sentence that names a boundary case, on both sides of it. */
public final class SheetEdgeTest extends Checks {
    private static final String SMALL = "abcdefghijklmnopqrstuvwxyz";
    private static final String DIGITS = "0123456789";
    private static final String VARIABLES = "UVWXYZ";
    private static final String KEYWORDS = "RITNDLGE";
    private static final int[] KEYWORD_TERMS = {1, 1, 1, 1, 2, 2, 2, 0};
    /** One rule with all that a text can have; no point stands in it but the last one. */
    private static final String RICH = "q(Z,f(U,9)):~p(U,f(a,U,0)),T(Z),a#f(b),0#U,p(U,z).";
    /** Rules with just one fault each, of the kinds 2 to 5. */
    private static final String[] FAULTY = {"T(a).", "q(U).", "q:~q.", "I(a):T(a)."};

    private static boolean has(String all, int code) {
        return all.indexOf(code) >= 0;
    }

    /** A new object with the first n characters of a full sheet. */
    private static RuleArena begun(int n) {
        RuleArena x = new RuleArena();
        put(x, FULL.substring(0, n));
        return x;
    }

    private static void atMost240Characters() {
        sentence("Terms, THE SHEET: at most 240 characters; promise 2: false if there would be more");
        RuleArena one = begun(239);
        due("two at 239", () -> one.write(eight("..")), false);
        due("one at 239", () -> one.write('.'), true);
        due("one at 240", () -> one.write('.'), false);
        due("eight at 240", () -> one.write(eight("p.q.r.s.")), false);
        due("none at 240", () -> one.write(0), true);
        due("240 characters", one::load, 8);
        RuleArena eight = begun(232);
        due("eight at 232", () -> eight.write(eight(FULL.substring(232))), true);
        due("240 characters", eight::load, 8);
        RuleArena nine = begun(233);
        due("eight at 233", () -> nine.write(eight(FULL.substring(233) + ".")), false);
        due("seven at 233", () -> nine.write(eight(FULL.substring(233))), true);
        due("240 characters", nine::load, 8);
        sentence("Promise 2: bytes that are 0 are no characters, so they do not count to 240");
        RuleArena zeros = begun(239);
        due("one above seven zeros", () -> zeros.write((long) '.' << 56), true);
        due("240 characters", zeros::load, 8);
        RuleArena two = begun(238);
        due("two with zeros between", () -> two.write((long) ')' << 48 | '.'), true);
        due("240 characters", two::load, 8);
        sentence("Terms, THE SHEET: the 240th character counts");
        faultDue(FULL.substring(0, 239) + "!", 1, 239);
        faultDue(FULL.substring(0, 239) + ")", 1, 239);
        sentence("Terms, fault 1: at the text's length, 240 at most, if something is missing");
        faultDue(FULL.substring(0, 239), 1, 239);
        faultDue(FULL.substring(0, 210) + "E:~p(f(a,b,c),f(a,b,c),f(a,b))", 1, 240);
    }

    private static void codes32To126() {
        sentence("Terms, THE SHEET: codes 32 .. 126; promise 2: false if a byte is another one but 0");
        for (int c = 1; c < 256; c++) {
            for (int place = 0; place < 8; place++) {
                long code = c;
                int shift = 8 * place;
                due("code " + c + " in byte " + place, () -> new RuleArena().write(code << shift), c >= 32 && c <= 126);
            }
        }
        for (int place = 0; place < 8; place++) {
            for (int c : new int[] {1, 31, 127, 128, 255}) {
                RuleArena x = new RuleArena();
                int shift = 8 * place;
                long bytes = eight("p.q.r.s.") & ~(255L << shift) | (long) c << shift;
                put(x, "p.");
                due("code " + c + " in byte " + place + " among good ones", () -> x.write(bytes), false);
                put(x, "q");
                due("code " + c + " in byte " + place + " alone", () -> x.write((long) c << shift), false);
                put(x, ".");
                due("nothing was done", x::load, 2);
            }
        }
        sentence("Promise 2: of the bytes that are not 0 the highest first");
        RuleArena order = new RuleArena();
        due("eight", () -> order.write(0x52286162632E2E2EL), true);
        due("they are R(abc...", order::load, ILLEGAL_TEXT);
        due("the b", () -> order.fault(1), 3);
        RuleArena gaps = new RuleArena();
        due("R ( a", () -> gaps.write(0x0052000028006100L), true);
        due("none", () -> gaps.write(0), true);
        due(") .", () -> gaps.write(0x290000000000002EL), true);
        due("R(a).", gaps::load, 1);
        due("the role", () -> spellAll(gaps, 0), "a");
    }

    private static void refusedWritesChangeNothing() {
        sentence("Promise 2: false, and nothing is done");
        RuleArena x = arena(NIM);
        x.play(1, 0);
        x.audit();
        put(x, FULL.substring(0, 239));
        idleDue(x, "a wrong code", () -> x.write(eight("\u007f")), false);
        idleDue(x, "one too many", () -> x.write(eight("..")), false);
        put(x, ".");
        due("the sheet", x::load, 8);
        sentence("Promise 2: a write changes nothing but the sheet");
        RuleArena y = arena(NIM);
        y.play(1, 0);
        y.audit();
        idleDue(y, "a good write", () -> y.write(eight("p.")), true);
        due("fault(0)", () -> y.fault(0), 0);
    }

    private static void oneTo24Rules() {
        sentence("Terms, RULES: 1 to 24; fault 1: of an empty text at 0");
        faultDue("", 1, 0);
        faultDue("p.", 0, 1);
        faultDue("p.".repeat(23), 0, 23);
        faultDue("p.".repeat(24), 0, 24);
        faultDue("p(f(a),b).".repeat(24), 0, 24);
        sentence("Terms, fault 1: at a 25th rule's first character");
        faultDue("p.".repeat(25), 1, 48);
        faultDue("p.".repeat(24) + "p", 1, 48);
        faultDue("p.".repeat(24) + "R(a).", 1, 48);
        faultDue("p.".repeat(24) + " ", 1, 48);
        faultDue("p.".repeat(24) + ".", 1, 48);
        faultDue("p.".repeat(40), 1, 48);
        faultDue("p(a).".repeat(23) + "p:q,r,s,t,u.E.", 1, 127);
        faultDue("p(a).".repeat(23) + "p:q,r,s,t,u.", 0, 24);
        sentence("Terms, fault 1: something is missing in the 24th rule");
        faultDue("p.".repeat(23) + "p", 1, 47);
        faultDue("p.".repeat(23) + "p:", 1, 48);
    }

    private static void oneTo5Literals() {
        sentence("Terms, RULE: 1 to 5 literals behind the colon");
        faultDue("p:.", 1, 2);
        faultDue("p:", 1, 2);
        faultDue("p:a.", 0, 1);
        faultDue("p:a,b,c,d.", 0, 1);
        faultDue("p:a,b,c,d,e.", 0, 1);
        faultDue("p:a,a,a,a,a.", 0, 1);
        faultDue("p:~a,b#c,T(d),e(f),0#1.", 0, 1);
        faultDue("p:a,b,c,d,e.q:a,b,c,d,e.r:a,b,c,d,e.", 0, 3);
        faultDue("p.".repeat(23) + "q:a,b,c,d,e.", 0, 24);
        sentence("Terms, fault 1: at a sixth literal's first character");
        for (String sixth : new String[] {"f.", "~f.", "U#a.", "0#a.", "a#b.", "T(a).", "E.", "f(a).", "f", ".", ",", " ", ")", "~"}) {
            faultDue("p:a,b,c,d,e," + sixth, 1, 12);
            faultDue("p:~a,b#c,T(d),e(f),0#1," + sixth, 1, 23);
            faultDue("r.s:t.p:a,b,c,d,e," + sixth, 1, 18);
        }
        faultDue("p.".repeat(23) + "q:a,b,c,d,e,f.", 1, 58);
        sentence("Terms, fault 1: behind a fifth literal only a point can stand, or a comma with nothing behind it");
        faultDue("p:a,b,c,d,e,", 1, 12);
        faultDue("p:a,b,c,d,e", 1, 11);
        faultDue("p:a,b,c,d,e:", 1, 11);
        faultDue("p:a,b,c,d,e#", 1, 12);
        sentence("Terms, RULE: literals with , between");
        faultDue("p:a,,b.", 1, 4);
        faultDue("p:a,.", 1, 4);
        faultDue("p:,a.", 1, 2);
        faultDue("p:a b.", 1, 3);
        faultDue("p:a:b.", 1, 3);
    }

    private static void theFirstThatCannotStand() {
        sentence("Terms, fault 1: at the first character that can't stand there");
        faultDue(RICH, 0, 1);
        for (int c = 32; c <= 126; c++) {
            if (!has(SMALL + DIGITS + VARIABLES + KEYWORDS + "().,:~#", c)) {
                for (int place = 0; place <= RICH.length(); place++) {
                    faultDue(RICH.substring(0, place) + (char) c + RICH.substring(place), 1, place);
                }
            }
        }
        faultDue("p(!,!).", 1, 2);
        faultDue("p.q(a,b,c,d).p().", 1, 9);
        sentence("Terms, fault 1: at the text's length if something is missing");
        for (int length = 1; length < RICH.length(); length++) {
            faultDue(RICH.substring(0, length), 1, length);
            faultDue("r." + RICH.substring(0, length), 1, length + 2);
        }
    }

    private static void literals() {
        sentence("Terms, LITERAL: an ATOM; ~ and an ATOM; or TERM # TERM");
        faultDue("p:q.", 0, 1);
        faultDue("p:~q.", 0, 1);
        faultDue("p:a#b.", 0, 1);
        faultDue("p:0#f(a,b,c).", 0, 1);
        faultDue("p:f(a,b,c)#0.", 0, 1);
        faultDue("p:~.", 1, 3);
        faultDue("p:~~q.", 1, 3);
        faultDue("p:~a#b.", 1, 4);
        faultDue("p:~0#b.", 1, 3);
        faultDue("p:~U#b.", 1, 3);
        faultDue("p:#b.", 1, 2);
        faultDue("p:a#.", 1, 4);
        faultDue("p:a##b.", 1, 4);
        faultDue("p:a#b#c.", 1, 5);
        faultDue("p:a#~b.", 1, 4);
        faultDue("p:U.", 1, 3);
        faultDue("p:0.", 1, 3);
        faultDue("p:E#a.", 1, 3);
        faultDue("p:a#E.", 1, 4);
        faultDue("p:T(a)#b.", 1, 6);
        faultDue("p:f(g(a))#b.", 1, 9);
        faultDue("p:f(a,g(a,b),c)#b.", 1, 15);
        faultDue("p:a#f(g(a)).", 1, 7);
        sentence("Terms, RULE: an ATOM is first, no other literal");
        faultDue("~p.", 1, 0);
        faultDue("a#b.", 1, 1);
        faultDue("U#b.", 1, 0);
        faultDue("p,q.", 1, 1);
        faultDue("p:q:r.", 1, 3);
    }

    private static void namesAndKeywords() {
        sentence("Terms, ATOM: a NAME is a .. z, a KEYWORD one of eight letters");
        for (int c = 32; c <= 126; c++) {
            boolean whole = has(SMALL + "E", c);
            boolean keyword = has(KEYWORDS, c);
            boolean open = keyword || c == '~' || has(VARIABLES + DIGITS, c);
            faultDue((char) c + ".", whole ? 0 : 1, whole || keyword ? 1 : 0);
            faultDue("p:" + (char) c + ".", whole ? 0 : 1, whole ? 1 : open ? 3 : 2);
            faultDue("p:~" + (char) c + ".", !whole ? 1 : c == 'p' ? 4 : 0, c == 'p' ? 0 : whole ? 1 : keyword ? 4 : 3);
        }
        sentence("Terms, ATOM: a name perhaps with 1 to 3 terms");
        faultDue("p.", 0, 1);
        faultDue("p().", 1, 2);
        faultDue("p(a).", 0, 1);
        faultDue("p(a,b).", 0, 1);
        faultDue("p(a,b,c).", 0, 1);
        faultDue("p(a,b,c,d).", 1, 7);
        faultDue("p(a,b,c,).", 1, 7);
        faultDue("p(f(a,b,c),f(a,b,c),f(a,b,c)).", 0, 1);
        faultDue("p(f(a,b,c),f(a,b,c),f(a,b,c),d).", 1, 28);
        faultDue("p(a,).", 1, 4);
        faultDue("p(,a).", 1, 2);
        faultDue("p(a)).", 1, 4);
        faultDue("p(a.", 1, 3);
        faultDue("q:p().", 1, 4);
        faultDue("q:p(a,b,c).", 0, 1);
        faultDue("q:p(a,b,c,d).", 1, 9);
        faultDue("q:~p(a,b,c).", 0, 1);
        faultDue("q:~p(a,b,c,d).", 1, 10);
    }

    private static void keywordsWithJustSoManyTerms() {
        sentence("Terms, ATOM: a keyword with just so many terms, R 1, I 1, T 1, N 1, D 2, L 2, G 2, E none");
        String[] given = {"", "(a)", "(a,a)", "(a,a,a)", "(a,a,a,a)"};
        for (int k = 0; k < KEYWORDS.length(); k++) {
            char keyword = KEYWORDS.charAt(k);
            int due = KEYWORD_TERMS[k];
            for (int n = 0; n < given.length; n++) {
                int place = n == 0 ? 1 : 1 + 2 * Math.min(n, due);
                boolean noHead = keyword == 'T' || keyword == 'D';
                boolean noBody = keyword == 'I' || keyword == 'N';
                faultDue(keyword + given[n] + ".", n != due ? 1 : noHead ? 2 : 0, n != due ? place : noHead ? 0 : 1);
                faultDue("p:" + keyword + given[n] + ".", n != due ? 1 : noBody ? 2 : 0, n != due ? place + 2 : noBody ? 0 : 1);
                faultDue("p:~" + keyword + given[n] + ".", n != due ? 1 : noBody ? 2 : 0, n != due ? place + 3 : noBody ? 0 : 1);
            }
            faultDue(keyword + "().", 1, due == 0 ? 1 : 2);
        }
    }

    private static void terms() {
        for (int c = 32; c <= 126; c++) {
            sentence("Terms, TERM: a variable U .. Z; a constant a .. z or 0 .. 9");
            boolean constant = has(SMALL + DIGITS, c);
            boolean variable = has(VARIABLES, c);
            int kind = constant ? 0 : variable ? 3 : 1;
            faultDue("p(" + (char) c + ").", kind, constant ? 1 : variable ? 0 : 2);
            faultDue("p(a,b," + (char) c + ").", kind, constant ? 1 : variable ? 0 : 6);
            faultDue("p:a#" + (char) c + ".", kind, constant ? 1 : variable ? 0 : 4);
            boolean open = has(KEYWORDS, c) || c == '~';
            faultDue("p:" + (char) c + "#a.", kind, constant ? 1 : variable ? 0 : open ? 3 : 2);
            sentence("Terms, COMPOUND: variables or constants stand in it");
            faultDue("p(f(" + (char) c + ")).", kind, constant ? 1 : variable ? 0 : 4);
            faultDue("p(f(a,b," + (char) c + ")).", kind, constant ? 1 : variable ? 0 : 8);
            sentence("Terms, COMPOUND: a letter a .. z is first");
            boolean letter = has(SMALL, c);
            faultDue("p(" + (char) c + "(a)).", letter ? 0 : 1, letter ? 1 : constant || variable ? 3 : 2);
            faultDue("p:a#" + (char) c + "(a).", letter ? 0 : 1, letter ? 1 : constant || variable ? 5 : 4);
        }
        sentence("Terms, COMPOUND: 1 to 3 variables or constants with , between");
        faultDue("p(f()).", 1, 4);
        faultDue("p(f(a)).", 0, 1);
        faultDue("p(f(a,b)).", 0, 1);
        faultDue("p(f(a,b,c)).", 0, 1);
        faultDue("p(f(a,b,c,d)).", 1, 9);
        faultDue("p(f(a,b,c,)).", 1, 9);
        faultDue("p(f(a,)).", 1, 6);
        faultDue("p(f(a b)).", 1, 5);
        faultDue("p:f(a,b,c)#f(c,b,a).", 0, 1);
        faultDue("p:f(a,b,c,d)#a.", 1, 9);
        faultDue("p:a#f(a,b,c,d).", 1, 11);
        faultDue("p:a#f().", 1, 6);
        sentence("Terms, COMPOUND: no compound stands in it");
        faultDue("p(f(g(a))).", 1, 5);
        faultDue("p(f(a,b,g(a))).", 1, 9);
        sentence("Terms: nothing else may stand in the text");
        faultDue(" p.", 1, 0);
        faultDue("p .", 1, 1);
        faultDue("p. q.", 1, 2);
        faultDue("p. ", 1, 2);
        faultDue("p..", 1, 2);
    }

    private static void fault2() {
        sentence("Terms, fault 2: a rule's head is T or D");
        faultDue("T(a).", 2, 0);
        faultDue("D(a,b).", 2, 0);
        faultDue("T(U):p(U).", 2, 0);
        faultDue("p:T(a),~T(b),D(a,b),~D(b,a).", 0, 1);
        sentence("Terms, fault 2: I or N stands in its body");
        faultDue("p:I(a).", 2, 0);
        faultDue("p:N(a).", 2, 0);
        faultDue("p:~I(a).", 2, 0);
        faultDue("p:~N(a).", 2, 0);
        faultDue("p:a,b,c,d,N(a).", 2, 0);
        faultDue("p:a,b,c,d,~I(a).", 2, 0);
        faultDue("I(a):p.N(a):p.", 0, 2);
        sentence("Terms, fault 2: its head is R and it has a body or a variable");
        faultDue("R(a):p.", 2, 0);
        faultDue("R(a):a#b.", 2, 0);
        faultDue("R(U).", 2, 0);
        faultDue("R(U):p(U).", 2, 0);
        faultDue("R(f(U)).", 2, 0);
        faultDue("R(f(a,b,Z)).", 2, 0);
        faultDue("R(f(a,b,c)).p(U):R(U).q:~R(a).", 0, 3);
    }

    private static void fault3() {
        sentence("Terms, fault 3: a variable of a rule's head stands in no atom of its body that has no ~");
        faultDue("p(U).", 3, 0);
        faultDue("p(a,b,U).", 3, 0);
        faultDue("p(f(a,b,U)).", 3, 0);
        faultDue("p(U):q(V).", 3, 0);
        faultDue("p(U,V):q(V).", 3, 0);
        faultDue("p(U):q(V),U#V.", 3, 0);
        faultDue("p(U):q(V),~q(U).", 3, 0);
        faultDue("p(U):q(V),V#a.", 3, 0);
        faultDue("p(U):q(V),~r(V).", 3, 0);
        faultDue("q(U):p(U).p(U).", 3, 1);
        faultDue("p(U):q(U).", 0, 1);
        faultDue("p(U):a,b,c,d,q(f(a,b,U)).", 0, 1);
        faultDue("p(U,V,W):q(X,Y,Z),r(U,V,W).", 0, 1);
        sentence("Terms, fault 3: a variable of a literal with ~");
        faultDue("p:~q(U).", 3, 0);
        faultDue("p:r(V),~q(f(V,U)).", 3, 0);
        faultDue("p:~q(U),~r(U).", 3, 0);
        faultDue("p:~q(U),r(V),V#a.", 3, 0);
        faultDue("p:~q(U),r(U).", 0, 1);
        faultDue("p:~q(a,b,U),r(f(U)).", 0, 1);
        sentence("Terms, fault 3: a variable of a literal with #");
        faultDue("p:U#a.", 3, 0);
        faultDue("p:a#U.", 3, 0);
        faultDue("p:f(U)#a.", 3, 0);
        faultDue("p:a#f(a,b,U).", 3, 0);
        faultDue("p:U#U.", 3, 0);
        faultDue("p:U#V,q(U).", 3, 0);
        faultDue("p:U#a,q(V),~r(V).", 3, 0);
        faultDue("p:U#V,q(U),r(V).", 0, 1);
        faultDue("p:f(U)#g(U),r(U).", 0, 1);
        sentence("Terms, fault 3: of other literals a variable may stand there alone");
        faultDue("p:q(U).", 0, 1);
        faultDue("p:q(U,f(V),W),D(X,Y),T(Z).", 0, 1);
    }

    private static void fault4() {
        sentence("Terms, fault 4: the relation of a literal with ~ is that of the head");
        faultDue("p:~p.", 4, 0);
        faultDue("p(U):q(U),~p(a).", 4, 0);
        faultDue("p(a,b,c):~p(b,c,a).", 4, 0);
        faultDue("L(a,b):~L(b,a).", 4, 0);
        faultDue("E:~E.", 4, 0);
        faultDue("p:a,b,c,d,~p.", 4, 0);
        faultDue("p:p.", 0, 1);
        sentence("Terms, RELATION: a name with a number of terms, so p and p(a) are two");
        faultDue("p:~p(a).", 0, 1);
        faultDue("p(a):~p.", 0, 1);
        faultDue("p(a):~p(a,b).p(a,b):~p(a,b,c).p(a,b,c):~p.", 0, 3);
        faultDue("p(a):~p(a,b).p(a,b):~p(a,b,c).p(a,b,c):~p(b).", 4, 0);
        sentence("Terms, fault 4: the relation of a literal with ~ depends on that of the head");
        faultDue("p:~q.q:p.", 4, 0);
        faultDue("q:p.p:~q.", 4, 1);
        faultDue("p:~q.q:r.r:p.", 4, 0);
        faultDue("p:~q.q:a,b,c,d,p.", 4, 0);
        faultDue("p:~q.q.q:p.", 4, 0);
        faultDue("p:~q.q:p(a).", 0, 2);
        faultDue("p:~q.q:r.r:q.", 0, 3);
        faultDue("p:q,~r.q:p.", 0, 2);
        faultDue("p:q,~r.q:p.r:s.s:r.", 0, 4);
        faultDue("p:q.q:p,~r.r.", 0, 3);
        sentence("Terms, DEPENDS: with or without ~");
        faultDue("p:~q.q:~r.", 0, 2);
        faultDue("p:~q.q:~p.", 4, 0);
        faultDue("p:~q.q:~r.r:~s.s:~p.", 4, 0);
        faultDue("r:p.p:~q.q:~r.", 4, 1);
        sentence("Terms, DEPENDS: and so on, over 24 rules");
        StringBuilder chain = new StringBuilder();
        StringBuilder back = new StringBuilder();
        for (char c = 'a'; c < 'x'; c++) {
            chain.append(c).append(':').append((char) (c + 1)).append('.');
            back.insert(0, c + ":" + (char) (c + 1) + ".");
        }
        faultDue(chain + "x:~a.", 4, 23);
        faultDue(chain + "x:~y.", 0, 24);
        faultDue("x:~a." + back, 4, 0);
        faultDue("x:~y." + back, 0, 24);
    }

    private static void fault5() {
        for (String atom : new String[] {"T(a)", "D(a,a)", "L(a,a)", "G(a,a)", "E"}) {
            sentence("Terms, fault 5: I depends on T, D, L, G or E");
            faultDue("I(a):" + atom + ".", 5, 0);
            faultDue("I(a):~" + atom + ".", 5, 0);
            faultDue("I(a):a,b,c,d," + atom + ".", 5, 0);
            faultDue("I(a):" + atom + ",R(a),b.", 5, 0);
            faultDue("p:" + atom + ".I(a):p.", 5, 1);
            faultDue("p:" + atom + ".q:~p.r:q.q.I(a):s,r.", 5, 4);
            faultDue("p:" + atom + ".I(a):p(a).p(a).", 0, 3);
            sentence("Terms, fault 5: by any of its rules, so each rule of I has it");
            faultDue("I(a).I(b):" + atom + ".", 5, 0);
            faultDue("p.I(a):p.I(b):" + atom + ".", 5, 1);
        }
        sentence("Terms, fault 5: on others I may depend");
        faultDue("R(a).I(a):R(a),~R(b),p,~q,a#b.p:q.", 0, 3);
        sentence("Terms, fault 5: the head is L, G or E, and that depends on D");
        for (String head : new String[] {"L(a,a)", "G(a,a)", "E"}) {
            faultDue(head + ":D(a,a).", 5, 0);
            faultDue(head + ":~D(a,a).", 5, 0);
            faultDue(head + ":D(a,a),T(a),R(a),p.", 5, 0);
            faultDue("p:D(a,a).q:~p." + head + ":q.", 5, 2);
            faultDue(head + "." + head + ":D(a,a).", 5, 0);
            faultDue(head + ":T(a),R(a),p,~q." + head + ":" + head + ".", 0, 2);
            faultDue("p:D(a,a)." + head + ":p(a).", 0, 2);
        }
        faultDue("E:L(a,a).L(a,a):G(a,a).G(a,a):T(a).", 0, 3);
        faultDue("E:L(a,a).L(a,a):G(a,a).G(a,a):D(a,a).", 5, 0);
        faultDue("p:D(a,a),L(a,a),G(a,a),E.N(a):D(a,a),p,T(a),~E.", 0, 2);
        faultDue("I(a):p.p:q.N(a):T(a).", 0, 3);
    }

    private static void theFirstOfTheFaults() {
        sentence("Terms, FAULTS: the first of 1 to 5, wherever it stands");
        String late = "I(a):T(a).q:~q.p(U).T(a).";
        faultDue(late + "!", 1, late.length());
        faultDue(late, 2, 3);
        faultDue("I(a):T(a).q:~q.p(U).", 3, 2);
        faultDue("I(a):T(a).q:~q.", 4, 1);
        faultDue("I(a):T(a).", 5, 0);
        faultDue("I(a):T(a).p(U).", 3, 1);
        faultDue("I(a):T(a).T(a).", 2, 1);
        faultDue("q:~q.T(a).", 2, 1);
        faultDue("I(a):T(a),~I(b).", 2, 0);
        sentence("Terms, FAULTS: 2 to 5 each at the first such rule, counted from 0");
        for (int kind = 2; kind <= 5; kind++) {
            String faulty = FAULTY[kind - 2];
            for (int place : new int[] {0, 1, 12, 22}) {
                faultDue("p.".repeat(place) + faulty + faulty, kind, place);
            }
            faultDue("p.".repeat(23) + faulty, kind, 23);
            faultDue(faulty + "p.".repeat(22) + faulty, kind, 0);
        }
    }

    private static void faultOfTheLatestLoad() {
        sentence("Promise 5: 0 without a load()");
        RuleArena fresh = new RuleArena();
        put(fresh, "p(");
        due("fault(0)", () -> fresh.fault(0), 0);
        due("fault(1)", () -> fresh.fault(1), 0);
        RuleArena x = arena("p.");
        String[] texts = {"p.q(U).", "p.q.", "p.q", "p.q:~q.", "p.q.T(a).", "", "p.I(a):T(a).", "p(a", things(5) + "I(f(U,V)):k(U),k(V).", "p.T(a)."};
        int[] kinds = {3, 0, 1, 4, 2, 1, 5, 1, 0, 2};
        int[] places = {1, 0, 3, 1, 2, 0, 1, 3, 0, 1};
        for (int k = 0; k < texts.length; k++) {
            sentence("Promise 5: of the latest load()");
            Object want = kinds[k] == 1 ? ILLEGAL_TEXT : kinds[k] > 0 ? UNSUPPORTED : texts[k].startsWith("k") ? ILLEGAL_STATE : 2;
            loadDue(x, texts[k], want);
            put(x, "p(");
            due("a refused write", () -> x.write(1), false);
            x.wipe();
            x.restart();
            x.audit();
            int kind = kinds[k];
            int place = places[k];
            due("fault(0) of " + texts[k], () -> x.fault(0), kind);
            due("fault(1) of " + texts[k], () -> x.fault(1), place);
            sentence("Promise 5: NONE for another what");
            due("fault(2)", () -> x.fault(2), -1);
            for (int far : FAR) {
                due("fault(" + far + ")", () -> x.fault(far), -1);
            }
        }
    }

    private static void theSheetIsEmptyThen() {
        String[] texts = {"p.", "p", "T(a).", things(5) + "I(f(U,V)):k(U),k(V)."};
        Object[] wants = {1, ILLEGAL_TEXT, UNSUPPORTED, ILLEGAL_STATE};
        for (int k = 0; k < texts.length; k++) {
            sentence("Promise 4: the sheet is empty then, whatever comes of it");
            RuleArena x = new RuleArena();
            loadDue(x, texts[k], wants[k]);
            due("load of nothing behind " + texts[k], x::load, ILLEGAL_TEXT);
            due("its fault", () -> x.fault(0), 1);
            due("its place", () -> x.fault(1), 0);
            RuleArena y = new RuleArena();
            loadDue(y, texts[k], wants[k]);
            put(y, FULL);
            due("the 241st", () -> y.write('.'), false);
            due("240 characters", y::load, 8);
        }
        sentence("Promise 4: how many rules");
        for (int n = 1; n <= 24; n++) {
            faultDue("q(a).".repeat(n), 0, n);
        }
    }

    private static void wiping() {
        sentence("Promise 3: the sheet is empty, be it full or empty before");
        RuleArena x = new RuleArena();
        x.wipe();
        due("an empty sheet", x::load, ILLEGAL_TEXT);
        due("its place", () -> x.fault(1), 0);
        put(x, FULL);
        x.wipe();
        x.wipe();
        due("a wiped sheet", x::load, ILLEGAL_TEXT);
        due("its place", () -> x.fault(1), 0);
        put(x, "p(");
        x.wipe();
        put(x, FULL);
        due("the 241st", () -> x.write('.'), false);
        due("240 characters", x::load, 8);
        sentence("Promise 3: wipe() changes nothing but the sheet");
        RuleArena y = arena(NIM);
        y.play(1, 0);
        y.audit();
        put(y, "T(a).");
        due("a faulty load", y::load, UNSUPPORTED);
        put(y, "p.");
        String before = told(y);
        y.wipe();
        due("all stays", () -> told(y), before);
        due("fault(0) stays", () -> y.fault(0), 2);
    }

    private static void newObjects() {
        sentence("Promise 1: an empty sheet");
        RuleArena x = new RuleArena();
        due("load", x::load, ILLEGAL_TEXT);
        due("its place", () -> x.fault(1), 0);
        RuleArena y = new RuleArena();
        put(y, FULL);
        due("the 241st", () -> y.write('.'), false);
        due("240 characters", y::load, 8);
        sentence("Promise 1: no rules");
        due("all that is told", () -> told(new RuleArena()), told(x));
        due("over()", () -> new RuleArena().over(), -1);
        due("restart()", () -> new RuleArena().restart(), false);
        due("play()", () -> new RuleArena().play(0, 0), ILLEGAL_STATE);
        due("audit()", () -> new RuleArena().audit(), ILLEGAL_STATE);
        sentence("Promise 1: one object's rules are not another one's");
        RuleArena other = new RuleArena();
        arena(NIM);
        due("over()", other::over, -1);
        due("load()", other::load, ILLEGAL_TEXT);
    }

    /** Texts that load() refuses, with what it throws. */
    private static Object[][] refusedTexts() {
        return new Object[][] {
            {"", ILLEGAL_TEXT}, {"R(a).I(0", ILLEGAL_TEXT}, {"p.".repeat(25), ILLEGAL_TEXT},
            {"R(a).T(a).", UNSUPPORTED}, {"R(a).p(U).", UNSUPPORTED}, {"R(a).z:~z.", UNSUPPORTED}, {"I(a):E.", UNSUPPORTED},
            {"R(c)." + things(5) + "I(f(U,V)):k(U),k(V).", ILLEGAL_STATE}, {FACTS_198 + "z.u.v.", ILLEGAL_STATE},
            {FACTS_198 + "I(0).z.", ILLEGAL_STATE}, {things(11) + "z:k(U),k(V),k(W),k(X),k(Y).", ILLEGAL_STATE}
        };
    }

    private static void refusedLoadsChangeNothing() {
        for (Object[] row : refusedTexts()) {
            sentence("Promise 4: when it throws, rules, state and audit stay");
            String text = (String) row[0];
            RuleArena x = arena(NIM);
            x.play(1, 0);
            x.audit();
            put(x, text);
            idleDue(x, "load of " + text, x::load, row[1]);
            due("worth()", x::worth, 8);
            due("the next move", () -> x.play(0, 0), 2);
            due("the state then", () -> spellAll(x, 1), "1 a");
            x.restart();
            due("the first state", () -> spellAll(x, 1), "4 a");
            due("the audit", () -> x.many(2), 8);
            sentence("Promise 4: when it throws, an audit that was not made is not made");
            RuleArena y = arena("R(a).R(b).R(c).I(0).");
            put(y, text);
            idleDue(y, "load of " + text, y::load, row[1]);
            due("no audit", () -> y.many(2), 0);
            due("the audit of the same rules", y::audit, 1);
            put(y, text);
            due("load again", y::load, row[1]);
            due("an audit that is over with 1 stays", () -> y.many(2), 1);
            sentence("Promise 4: when it throws, there are no rules if there were none");
            RuleArena none = new RuleArena();
            put(none, text);
            idleDue(none, "load of " + text, none::load, row[1]);
            due("over()", none::over, -1);
            due("restart()", none::restart, false);
            due("audit()", none::audit, ILLEGAL_STATE);
        }
    }

    private static void theSheetBecomesTheRules() {
        sentence("Promise 4: the sheet becomes the rules, the state is the first one");
        RuleArena x = arena(NIM);
        x.play(1, 0);
        x.audit();
        loadDue(x, "R(c).R(d).I(x).I(y).z(a).", 5);
        due("roles", () -> spellAll(x, 0), "c d");
        due("state", () -> spellAll(x, 1), "x y");
        due("old facts", () -> x.facts('s', 2), 0);
        due("new facts", () -> x.facts('z', 1), 1);
        due("old moves", () -> x.moves(0), 0);
        due("no audit of these rules", () -> x.many(2), 0);
        due("an audit of these rules", x::audit, 2);
        loadDue(x, "R(c).R(d).E.G(c,1).G(d,7).", 5);
        due("worth by a new audit", x::worth, 1);
        sentence("Promise 4: what was there before does not count to what follows from nothing");
        RuleArena played = arena("R(a).R(b).L(a,0).L(b,0).N(0).");
        due("play", () -> played.play(0, 0), 1);
        loadDue(played, FACTS_198 + "z:T(0).u:T(0).v:T(0).", 17);
        sentence("Promise 4: the sheet becomes the rules");
        due("the same rules again", () -> {
            put(x, NIM);
            return x.load();
        }, 18);
        due("are new rules, without an audit", () -> x.many(2), 0);
        sentence("Promise 4: IllegalArgumentException, else UnsupportedOperationException, else IllegalStateException");
        String beyond = things(5) + "I(f(U,V)):k(U),k(V).";
        RuleArena y = new RuleArena();
        loadDue(y, beyond + "T(a).!", ILLEGAL_TEXT);
        loadDue(y, beyond + "T(a).", UNSUPPORTED);
        due("fault(0)", () -> y.fault(0), 2);
        loadDue(y, beyond + "L(a,a):D(a,a).", UNSUPPORTED);
        due("fault(0)", () -> y.fault(0), 5);
        loadDue(y, beyond, ILLEGAL_STATE);
        due("fault(0)", () -> y.fault(0), 0);
        due("fault(1)", () -> y.fault(1), 0);
    }

    public static void main(String[] args) {
        atMost240Characters();
        codes32To126();
        refusedWritesChangeNothing();
        oneTo24Rules();
        oneTo5Literals();
        theFirstThatCannotStand();
        literals();
        namesAndKeywords();
        keywordsWithJustSoManyTerms();
        terms();
        fault2();
        fault3();
        fault4();
        fault5();
        theFirstOfTheFaults();
        faultOfTheLatestLoad();
        theSheetIsEmptyThen();
        wiping();
        newObjects();
        refusedLoadsChangeNothing();
        theSheetBecomesTheRules();
        finish();
    }
}
