/** What follows, BEYOND, states, players and what is told of them: the sentences that name a boundary case, on both sides of it. */
public final class FollowEdgeTest extends Checks {
    private static final String FIVE_K = "z:k(U),k(V),k(W),k(X),k(Y).";
    /** Facts a: 3, b: 5, j: 7, k: 8, w: 56, u: 64 + 49; three facts w more make 3 * 5 * 59 * 113. */
    private static final String BELOW_PRODUCT = "a(0).a(1).a(2).b(U):a(U).b(3).b(4).j(U):b(U).j(5).j(6).k(U):j(U).k(7)."
            + "w(U,V):k(U),k(V),U#V.u(U,V):k(U),k(V).u(f(U),V):j(U),j(V).z:a(U),b(V),w(W,X),u(Y,Z).";
    /** The first state is empty, and both have one move. */
    private static final String PAIR = "R(a).R(b).L(a,0).L(b,0).";

    private static void orderOfTerms() {
        sentence("Terms, GROUND: ordered character by character, a text that goes on behind the other's end being later");
        String sorted = "0 9 a f f(0) f(0,0) f(0,0,0) f(0,0,z) f(0,1) f(0,z) f(1) f(9) f(a) f(a,0) f(z) g z";
        for (String letter : new String[] {"R(%).", "I(%).", "L(a,%).", "L(b,%)."}) {
            StringBuilder text = new StringBuilder(letter.startsWith("L") ? "R(a).R(b)." : "");
            String[] terms = sorted.split(" ");
            for (int k = terms.length - 1; k >= 0; k--) {
                text.append(letter.replace("%", terms[k]));
            }
            int what = letter.startsWith("R") ? 0 : letter.startsWith("I") ? 1 : letter.startsWith("L(a") ? 2 : 3;
            RuleArena x = arena(text.toString());
            due("the order in letter(" + what + ", ..)", () -> spellAll(x, what), sorted);
        }
        RuleArena y = arena("I(f(z,z,z)).I(f(z,z)).I(f(z)).I(f).I(e(z)).I(f(z,z,0)).I(f(z,0)).I(f(0,z,z)).I(g(0)).I(e).");
        due("compounds", () -> spellAll(y, 1), "e e(z) f f(0,z,z) f(z) f(z,0) f(z,z) f(z,z,0) f(z,z,z) g(0)");
    }

    private static void constantsAlone() {
        sentence("Terms, WHAT FOLLOWS: constants alone for a variable that stands in a compound anywhere in that rule");
        String given = "p(0).p(f(1)).p(f(1,2)).";
        String[] alone = {"q(g(U)):p(U).", "q(g(a,b,U)):p(U).", "q(U,U,g(U)):p(U).", "q(U):p(U),~t(f(U)).", "q(U):~t(0,0,f(0,0,U)),p(U).",
            "q(U):p(U),g(U)#a.", "q(U):a#g(0,U),p(U).", "q(U):p(U),p(V),g(U)#V.", "q(U):p(U),p(V),~t(g(U)).", "q(U):p(U),p(U),~t(U,f(U))."};
        for (String rule : alone) {
            int terms = rule.startsWith("q(U,") ? 3 : 1;
            due("q of " + rule, () -> arena(given + rule).facts('q', terms), 1);
        }
        sentence("Terms, WHAT FOLLOWS: any ground terms for another variable");
        String[] any = {"q(U):p(U).", "q(U):p(U),~t(U).", "q(U):p(U),U#a.", "q(V):p(U),p(V),~t(f(U)).", "q(V):p(V),p(U),g(U)#a.",
            "q(U):p(U).r(g(U)):p(U).", "q(U):p(U),f(0)#a."};
        for (String rule : any) {
            due("q of " + rule, () -> arena(given + rule).facts('q', 1), 3);
        }
        RuleArena parts = arena("p(f(1)).p(f(1,2)).p(f(1,2,3)).p(f).p(1).a(U):p(f(U)).b(U,V):p(f(U,V)).c(U,V,W):p(f(U,V,W)).d:p(f).e(U):p(U).");
        due("a compound with one part", () -> parts.facts('a', 1), 1);
        due("with two", () -> parts.facts('b', 2), 1);
        due("with three", () -> parts.facts('c', 3), 1);
        due("a constant is no compound", () -> parts.facts('d', 0), 1);
        due("any", () -> parts.facts('e', 1), 5);
    }

    private static void variables() {
        sentence("Terms, VARIABLE: U .. Z, each of the six the same in all places of a rule");
        String given = "p(a,b).p(b,b).p(b,c).p(f(b),b).p(f(a,a,b),b).p(f(b,b,b),b).p(f(c),a).s(b).s(f(b)).";
        String[] rules = {"q(v):p(v,b).", "q(v):p(v,v).", "q(v):p(f(v),v).", "q(f(a,v,v)):s(v).", "q(v):s(v),p(f(v),v).",
            "q(v):p(f(v,v,v),v).", "q(v):s(v),p(f(a,a,v),w).", "q(v):p(v,w),v#b.", "q(v):p(v,w),~s(v).", "q(v):p(w,v),s(w),~s(v)."};
        int[] counts = {5, 1, 1, 1, 1, 1, 1, 5, 4, 1};
        for (char v = 'U'; v <= 'Z'; v++) {
            char other = v == 'Z' ? 'U' : 'Z';
            for (int k = 0; k < rules.length; k++) {
                String rule = rules[k].replace('v', v).replace('w', other);
                due("q of " + rule, () -> arena(given + rule).facts('q', 1), counts[k]);
            }
        }
        RuleArena parts = arena("p(f(1,2)).p(f(3,3)).p(f(4,4,5)).p(f(6,6,6)).p(f(7,8,7)).e(4).e(9).q(U):p(f(U,U)).r(U):p(f(U,U,U))."
                + "s(V):p(f(U,V,U)).t(V):p(f(U,U,V)).g(V):e(U),p(f(U,U,V)).h(V):e(U),p(f(U,V)).");
        due("twice in a compound", () -> parts.facts('q', 1), 1);
        due("three times", () -> parts.facts('r', 1), 1);
        due("first and last", () -> parts.facts('s', 1), 2);
        due("first and second", () -> parts.facts('t', 1), 2);
        due("also in another atom", () -> parts.facts('g', 1), 1);
        due("in another atom, but not here", () -> parts.facts('h', 1), 0);
        sentence("Terms, COMPOUND: each of its three parts stands for itself");
        RuleArena y = arena("p(1,2,3).p(4,5,6).I(f(U,V,W)):p(U,V,W).I(g(W,U)):p(U,V,W).I(h(Z)):p(X,Y,Z).q(f(U,V,W)):p(U,V,W)."
                + "r(U,V,W):q(f(W,V,U)).s(U):p(U,V,W),q(f(U,V,W)).t(U):p(U,V,W),q(f(W,V,U)).u:q(f(1,2,3)).v:q(f(1,2,4)).w:q(f(4,2,3)).");
        due("the terms", () -> spellAll(y, 1), "f(1,2,3) f(4,5,6) g(3,1) g(6,4) h(3) h(6)");
        due("r", () -> y.facts('r', 3), 2);
        due("s", () -> y.facts('s', 1), 2);
        due("t", () -> y.facts('t', 1), 0);
        due("u", () -> y.facts('u', 0), 1);
        due("v", () -> y.facts('v', 0), 0);
        due("w", () -> y.facts('w', 0), 0);
    }

    private static void andSoOn() {
        sentence("Terms, WHAT FOLLOWS: also by facts that followed by the same rule, until nothing new comes");
        String far = "y(U,V):s(U,V).";
        String[] steps = {"y(U,V):y(U,W),s(W,V).", "y(U,V):s(U,W),y(W,V).", "y(U,V):y(U,W),y(W,V).", "y(U,V):y(W,V),y(U,W)."};
        for (String step : steps) {
            // From each number to each later one; then a layer behind it, and one behind that.
            RuleArena x = arena(LINE + far + step + "q(U,V):y(U,V),~s(U,V).r(V):q(0,V).r(U):r(U),s(U,V).t:~r(9).");
            due("y by " + step, () -> x.facts('y', 2), 45);
            due("q by " + step, () -> x.facts('q', 2), 36);
            due("r by " + step, () -> x.facts('r', 1), 8);
            due("t by " + step, () -> x.facts('t', 0), 0);
        }
        RuleArena one = arena("p(0).p(U):p(V),s(V,U)." + LINE);
        due("one behind the other", () -> one.facts('p', 1), 10);
        RuleArena two = arena("p(0).p(U):q(V),s(V,U).q(U):p(V),s(V,U)." + LINE);
        due("even ones", () -> two.facts('p', 1), 5);
        due("odd ones", () -> two.facts('q', 1), 5);
        RuleArena ring = arena("s(0,1).s(1,2).s(2,0)." + far + steps[2]);
        due("a ring ends", () -> ring.facts('y', 2), 9);
    }

    private static void whatHolds() {
        sentence("Terms, WHAT FOLLOWS: an atom holds if it follows, with ~ if it does not follow");
        RuleArena x = arena("p(a).q:p(a).r:p(b).s:~p(a).t:~p(b).u:~p.v:~p(a,a).w:p(U),~q.y:p(U),~r.z:~T(a).");
        for (char c : "qtuvyz".toCharArray()) {
            due("" + c, () -> x.facts(c, 0), 1);
        }
        for (char c : "rsw".toCharArray()) {
            due("" + c, () -> x.facts(c, 0), 0);
        }
        sentence("Terms, WHAT FOLLOWS: # holds if the terms are unlike");
        String unlike = "a#b 0#1 a#f(a) f#f(a) f(a)#f(b) f(a)#g(a) f(a)#f(a,a) f(a,b)#f(b,a) f(a,b,c)#f(a,b,d) f(a,a)#f(a,a,a)";
        for (String pair : unlike.split(" ")) {
            due(pair, () -> arena("q:" + pair + ".").facts('q', 0), 1);
            String left = pair.substring(0, pair.indexOf('#'));
            String right = pair.substring(pair.indexOf('#') + 1);
            due(left + "#" + left, () -> arena("q:" + left + "#" + left + ".").facts('q', 0), 0);
            due(right + "#" + right, () -> arena("q:" + right + "#" + right + ".").facts('q', 0), 0);
            RuleArena y = arena("p(" + left + "," + right + ").p(" + left + "," + left + ").q(U,V):p(U,V),U#V.");
            due("U#V of " + pair, () -> y.facts('q', 2), 1);
        }
        sentence("Terms, WHAT FOLLOWS: for any rule, also one without a body or with all five literals");
        RuleArena five = arena("p(1,2).p(2,3).p(3,4).p(4,5).p(5,6).q(U,Z):p(U,V),p(V,W),p(W,X),p(X,Y),p(Y,Z).r(U,Y):p(U,V),p(V,W),p(W,X),p(X,Y),U#Y.");
        due("five atoms", () -> five.facts('q', 2), 1);
        due("four and #", () -> five.facts('r', 2), 2);
        sentence("Terms, WHAT FOLLOWS: layer by layer, up to 24 of them");
        StringBuilder tower = new StringBuilder();
        for (char c = 'x'; c > 'a'; c--) {
            tower.append(c).append(":~").append((char) (c - 1)).append('.');
        }
        RuleArena high = arena(tower + "a.");
        due("the 24th layer", () -> high.facts('x', 0), 0);
        due("the 23rd", () -> high.facts('w', 0), 1);
        RuleArena low = arena(tower + "a:b(a).");
        due("the 24th layer, turned", () -> low.facts('x', 0), 1);
    }

    private static void atMost200Facts() {
        sentence("Terms, BEYOND: more than 200 facts follow");
        loadDue(new RuleArena(), FACTS_198 + "z.u.", 16);
        loadDue(new RuleArena(), FACTS_198 + "z.u.v.", ILLEGAL_STATE);
        RuleArena full = arena(FACTS_198 + "z.u.");
        due("all of them are there", () -> full.facts('w', 2) + full.facts('x', 2) + full.facts('y', 2) + full.facts('k', 1), 198);
        sentence("Terms, BEYOND: a fact that follows twice is one");
        loadDue(new RuleArena(), FACTS_198 + "z.u.u.z:u.k(U):k(U).", 19);
        loadDue(new RuleArena(), FACTS_198 + "z.u.w(U,V):x(V,U).x(U,V):w(V,U).k(U):w(U,V).", 19);
        sentence("Terms, BEYOND: those that were given count, T in a state");
        loadDue(new RuleArena(), FACTS_198 + "I(0).", 15);
        loadDue(new RuleArena(), FACTS_198 + "I(0).z.", ILLEGAL_STATE);
        loadDue(new RuleArena(), FACTS_198 + "z:T(0).u:T(0).v:T(0).", 17);
        sentence("Promise 4: IllegalStateException if what follows from nothing is BEYOND");
        // In the first state there are 200 in both.
        loadDue(new RuleArena(), FACTS_198 + "I(0).z:~T(0).", 16);
        loadDue(new RuleArena(), FACTS_198 + "I(0).z:~T(0).u:~T(0).", ILLEGAL_STATE);
        sentence("Promise 4: IllegalStateException if what follows in the first state is BEYOND");
        String less = things(9) + "w(U,V):k(U),k(V).x(U,V):k(U),k(V).y(U,a):k(U).y(U,b):k(U).y(a,b).y(b,b).y(c,b).y(d,b).y(e,b).";
        // 194 with y(a,b) .. y(e,b), 195 with I(0), 196 with T(0).
        loadDue(new RuleArena(), less + "I(0).p:T(0).q:T(0).r:T(0).s:T(0).", 23);
        loadDue(new RuleArena(), less + "I(0).p:T(0).q:T(0).r:T(0).s:T(0).t:T(0).", ILLEGAL_STATE);
    }

    private static void productOf100000() {
        sentence("Terms, BEYOND: a product above 100000");
        RuleArena even = arena(things(10) + FIVE_K);
        due("10 * 10 * 10 * 10 * 10", () -> even.facts('z', 0), 1);
        loadDue(new RuleArena(), things(11) + FIVE_K, ILLEGAL_STATE);
        RuleArena below = arena(BELOW_PRODUCT);
        due("3 * 5 * 56 * 113", () -> below.facts('z', 0), 1);
        due("56", () -> below.facts('w', 2), 56);
        due("113", () -> below.facts('u', 2), 113);
        // 100005 is the least product above 100000 of numbers of facts that can be.
        loadDue(new RuleArena(), BELOW_PRODUCT + "w(U,x):a(U).", ILLEGAL_STATE);
        loadDue(new RuleArena(), "w(U,x):a(U)." + BELOW_PRODUCT, ILLEGAL_STATE);
        RuleArena without = arena(BELOW_PRODUCT.replace("z:a(U),b(V),w(W,X),u(Y,Z).", "w(U,x):a(U)."));
        due("the 59 alone are not", () -> without.facts('w', 2), 59);
        sentence("Terms, BEYOND: a relation that stands there twice counts twice");
        loadDue(new RuleArena(), things(17) + "z:k(U),k(V),k(W),k(X).", 18);
        loadDue(new RuleArena(), things(18) + "z:k(U),k(V),k(W),k(X).", ILLEGAL_STATE);
        loadDue(new RuleArena(), things(18) + "z:k(U),k(U),k(U),k(U).", ILLEGAL_STATE);
        loadDue(new RuleArena(), things(18) + "z:k(0),k(0),k(0),k(0).", ILLEGAL_STATE);
        loadDue(new RuleArena(), things(18) + "z:k(0),k(0),k(0).", 19);
        sentence("Terms, BEYOND: also if the rule brings nothing");
        loadDue(new RuleArena(), things(18) + "z:k(x),k(V),k(W),k(X).", ILLEGAL_STATE);
        loadDue(new RuleArena(), things(18) + "z:k(U),k(V),k(W),k(X),a#a.", ILLEGAL_STATE);
        loadDue(new RuleArena(), things(18) + "k(0):k(U),k(V),k(W),k(X).", ILLEGAL_STATE);
        sentence("Terms, BEYOND: over the atoms that have no ~");
        loadDue(new RuleArena(), things(11) + "z:k(U),k(V),k(W),k(X),~k(x).", 12);
        loadDue(new RuleArena(), things(11) + "z:k(U),k(V),k(W),k(X),U#V.", 12);
        loadDue(new RuleArena(), things(10) + "z:~k(x),~k(y),~k(w),~k(v),k(U).", 11);
        sentence("Terms, BEYOND: of a relation without facts the product is 0");
        loadDue(new RuleArena(), things(18) + "z:k(U),k(V),k(W),k(X),q.", 19);
        loadDue(new RuleArena(), things(18) + "z:q,k(U),k(V),k(W),k(X).q.", ILLEGAL_STATE);
        sentence("Terms, BEYOND: relations with other numbers of terms are others");
        loadDue(new RuleArena(), things(10) + "k(1,1).k.k(1,1,1)." + FIVE_K, 14);
    }

    private static void productInTheEnd() {
        sentence("Terms, BEYOND: how many facts follow in the end");
        loadDue(new RuleArena(), FIVE_K + things(10), 11);
        loadDue(new RuleArena(), FIVE_K + things(11), ILLEGAL_STATE);
        loadDue(new RuleArena(), things(10) + "k(a):z." + FIVE_K, ILLEGAL_STATE);
        loadDue(new RuleArena(), things(10) + "k(9):z." + FIVE_K, 12);
        // The rule brings nothing new when the last k comes, and none of the others does behind it.
        loadDue(new RuleArena(), things(9) + "p:k(0).k(x):p.k(y):z,p." + FIVE_K, ILLEGAL_STATE);
        loadDue(new RuleArena(), things(9) + "p:k(0).k(x):p.k(x):z,p." + FIVE_K, 13);
        sentence("Terms, BEYOND: the product counts T of the state");
        loadDue(new RuleArena(), things(10) + "I(U):k(U).z:T(U),T(V),T(W),T(X),T(Y).", 12);
        loadDue(new RuleArena(), things(11) + "I(U):k(U).z:T(U),T(V),T(W),T(X),T(Y).", ILLEGAL_STATE);
        sentence("Terms, BEYOND: the product from nothing");
        loadDue(new RuleArena(), things(10) + "I(0).m(U):k(U),~T(0).z:m(U),m(V),m(W),m(X),m(Y).", 13);
        loadDue(new RuleArena(), things(11) + "I(0).m(U):k(U),~T(0).z:m(U),m(V),m(W),m(X),m(Y).", ILLEGAL_STATE);
        sentence("Terms, BEYOND: the product counts D of a move");
        // 2 * 25 * 25 * 16 * 5, and with one v more 2 * 25 * 25 * 17 * 5.
        String squares = PAIR + things(5) + things('m', 4) + "w(U,V):k(U),k(V).v(U,V):m(U),m(V).z:D(U,V),w(W,X),w(X,W),v(Y,Z),k(U).";
        due("100000", () -> arena(squares).play(0, 0), 0);
        RuleArena over = arena(squares + "v(x,x).");
        idleDue(over, "106250", () -> over.play(0, 0), ILLEGAL_STATE);
        sentence("Terms, BEYOND: the product in the state to which a move leads");
        String more = things(10) + PAIR + "I(U):k(U).z:T(U),T(V),T(W),T(X),T(Y).N(U):T(U).";
        due("10 terms", () -> arena(more).play(0, 0), 10);
        RuleArena eleven = arena(more + "N(x).");
        idleDue(eleven, "11 terms", () -> eleven.play(0, 0), ILLEGAL_STATE);
    }

    private static void factsOfMoves() {
        sentence("Terms, BEYOND: D of a move are given and count to 200");
        // 198 facts in the state.
        String dense = PAIR + things(9) + "w(U,V):k(U),k(V).x(U,V):k(U),k(V).y(U,a):k(U).y(U,b):k(U).z.u.v.s.t.";
        RuleArena full = arena(dense);
        due("198 facts and two", () -> full.play(0, 0), 0);
        due("its audit", full::audit, 6);
        RuleArena over = arena(dense + "r.");
        idleDue(over, "199 facts and two", () -> over.play(0, 0), ILLEGAL_STATE);
        due("no such move is told ahead of it", () -> over.play(1, 0), NO_INDEX);
        due("its audit", over::audit, 7);
        due("its states", () -> over.many(2), 1);
        sentence("Promise 12: IllegalStateException if what follows in the state that comes is BEYOND");
        // 196 facts; in the next state T(0), E, z and u come to them.
        String next = "R(a).R(b).L(a,0).L(b,0).G(a,8).G(b,0).N(0)." + things(9)
                + "w(U,V):k(U),k(V).x(U,V):k(U),k(V).y(U,a):k(U).y(U,b):k(U).E:T(0).z:T(0).u:T(0).";
        RuleArena there = arena(next);
        due("200 facts there", () -> there.play(0, 0), 1);
        due("its audit", there::audit, 0);
        RuleArena beyond = arena(next + "v.");
        idleDue(beyond, "201 facts there", () -> beyond.play(0, 0), ILLEGAL_STATE);
        sentence("Terms, AUDIT: what follows in a state is asked when it is looked at");
        due("its audit", beyond::audit, 7);
        due("its states", () -> beyond.many(2), 2);
    }

    private static void atMost24Terms() {
        sentence("Terms, STATE: at most 24 terms; promise 4: IllegalStateException if the first state is BEYOND");
        String product = things(4) + things('j', 6) + "I(f(U,V)):k(U),j(V).";
        RuleArena x = arena(product);
        due("24 terms", () -> x.many(1), 24);
        due("T", () -> x.facts('T', 1), 24);
        due("the last one", () -> spell(x, 1, 23), "f(3,5)");
        due("no more", () -> spell(x, 1, 24), "");
        loadDue(new RuleArena(), product + "I(x).", ILLEGAL_STATE);
        sentence("Terms, STATE: a set, so a term that comes twice is one");
        due("I twice", () -> arena(product + "I(f(0,0)).").many(1), 24);
        sentence("Terms, STATE: no terms are a state, too");
        RuleArena empty = arena("R(a).I(0):p.");
        due("many(1)", () -> empty.many(1), 0);
        due("T", () -> empty.facts('T', 1), 0);
        due("over", empty::over, 0);
        sentence("Terms, JOINT: more than 24 terms are BEYOND; promise 12: what comes is BEYOND");
        String moves = "R(a).R(b).I(0).L(a,0).L(a,1).L(b,0)." + things(4) + things('j', 6) + "N(f(U,V)):k(U),j(V).N(f(0,0)):D(a,0).N(x):D(a,1).";
        RuleArena y = arena(moves);
        idleDue(y, "to 25 terms", () -> y.play(1, 0), ILLEGAL_STATE);
        due("to 24 terms", () -> y.play(0, 0), 24);
        due("24 terms", () -> y.many(1), 24);
        due("the audit", y::audit, 7);
        due("its states", () -> y.many(2), 2);
        idleDue(y, "from 24 to 25 terms", () -> y.play(1, 0), ILLEGAL_STATE);
        due("from 24 to 24 terms", () -> y.play(0, 0), 24);
    }

    private static void statesWithoutMoves() {
        sentence("Terms, STATE: T of its terms follow in it, with all that comes of them, without D");
        RuleArena x = arena("R(a).R(b).I(0).I(f(0)).L(a,0).L(b,0).p(U):T(U).q(U):D(U,V).r:~D(a,0).N(1):~D(a,0).N(2):D(a,0).N(U):T(U).");
        due("p", () -> x.facts('p', 1), 2);
        due("q", () -> x.facts('q', 1), 0);
        due("r", () -> x.facts('r', 0), 1);
        due("N without D", () -> x.facts('N', 1), 3);
        due("play", () -> x.play(0, 0), 3);
        due("the state", () -> spellAll(x, 1), "0 2 f(0)");
        due("D behind a move", () -> x.facts('D', 2), 0);
        due("q behind a move", () -> x.facts('q', 1), 0);
        sentence("Terms, FIRST: all t for which I(t) follows from nothing");
        RuleArena y = arena("R(a).I(U):R(U).I(f(U)):R(U),~p(U).I(g):p.I(h):~p.p(b).");
        due("the state", () -> spellAll(y, 1), "a f(a) h");
    }

    private static void rolesAndPlayers() {
        String[] texts = {"L(a,0).L(b,0).G(a,1).", "R(b).L(a,0).L(b,0).L(b,1).G(b,1).", "R(b).R(a).L(a,0).L(b,0).L(b,1).G(a,2).G(b,1).",
            "R(c).R(b).R(a).L(a,0).L(b,0).L(b,1).L(c,0).L(c,1).L(c,2).G(a,2).G(b,1).G(c,5)."};
        int[][] moves = {{-1, -1}, {2, -1}, {1, 2}, {1, 2}};
        int[][] goals = {{-1, -1}, {1, -1}, {2, 1}, {2, 1}};
        for (int k = 0; k < texts.length; k++) {
            RuleArena x = arena(texts[k]);
            int roles = k;
            sentence("Terms, PLAYERS: 0 and 1 are the first two roles, of one role 0 alone; promise 6: how many roles there are");
            due(roles + " roles", () -> x.many(0), roles);
            for (int player = 0; player < 2; player++) {
                int p = player;
                due("moves(" + p + ") of " + roles + " roles", () -> x.moves(p), moves[roles][p]);
                due("goal(" + p + ") of " + roles + " roles", () -> x.goal(p), goals[roles][p]);
                due("letters of moves", () -> x.letter(2 + p, 0, 0), moves[roles][p] < 0 ? -1 : (int) '0');
            }
            sentence("Promises 8 and 10: NONE if there is no such player");
            due("moves(2)", () -> x.moves(2), -1);
            due("goal(2)", () -> x.goal(2), -1);
            for (int far : FAR) {
                due("moves(" + far + ")", () -> x.moves(far), -1);
                due("goal(" + far + ")", () -> x.goal(far), -1);
            }
        }
        sentence("Terms, ROLES: a role that is told twice is one; up to 24 of them");
        due("twice", () -> arena("R(a).R(b).R(a).").many(0), 2);
        RuleArena many = arena(things('R', 20) + "R(f(a,b,c)).R(f(a,b)).R(f(a)).R(f).");
        due("one is there already", () -> many.many(0), 23);
        RuleArena most = arena(things('R', 20) + "R(f(a,b,c)).R(f(a,b)).R(f(a)).R(z).");
        due("24 roles", () -> most.many(0), 24);
        due("the 24th", () -> spell(most, 0, 23), "z");
        due("the 25th", () -> spell(most, 0, 24), "");
        sentence("Promise 8: how many legal moves, none too");
        due("none", () -> arena("R(a).L(b,0).").moves(0), 0);
        due("at an end, too", () -> arena("R(a).E.L(a,0).L(a,0).L(a,1).").moves(0), 2);
        due("of the sheet's first rule", () -> arena("L(a,0).R(a).").moves(0), 1);
        due("without rules", () -> new RuleArena().moves(0), -1);
    }

    private static void goals() {
        sentence("Terms, GOAL: v is 0 .. 8");
        for (int v = 0; v <= 9; v++) {
            int goal = v;
            RuleArena x = arena("R(a).R(b).G(a," + v + ").G(b," + (9 - v) + ").");
            due("goal(0) of " + v, () -> x.goal(0), goal <= 8 ? goal : -1);
            due("goal(1) of " + (9 - v), () -> x.goal(1), goal >= 1 ? 9 - goal : -1);
        }
        for (String term : "a z f(8) f(0,0) f(a,b,8)".split(" ")) {
            due("goal " + term, () -> arena("R(a).G(a," + term + ").").goal(0), -1);
        }
        sentence("Terms, GOAL: G(r, v) follows for just one term v");
        due("for none", () -> arena("R(a).").goal(0), -1);
        due("for two", () -> arena("R(a).G(a,1).G(a,2).").goal(0), -1);
        due("for 8 and 9", () -> arena("R(a).G(a,8).G(a,9).").goal(0), -1);
        due("for 9 and 8", () -> arena("R(a).G(a,9).G(a,8).").goal(0), -1);
        due("for a letter and 0", () -> arena("R(a).G(a,x).G(a,0).").goal(0), -1);
        due("for 0 and a compound", () -> arena("R(a).G(a,0).G(a,f(0)).").goal(0), -1);
        due("by the sheet's first rule", () -> arena("G(a,3).R(a).").goal(0), 3);
        due("for one by two rules", () -> arena("R(a).G(a,3).G(a,3):~p.").goal(0), 3);
        due("for another role only", () -> arena("R(a).G(b,3).").goal(0), -1);
        due("for another role, too", () -> arena("R(a).G(b,3).G(a,4).G(f(a),5).").goal(0), 4);
        due("without rules", () -> new RuleArena().goal(0), -1);
    }

    private static void countsOfFacts() {
        RuleArena x = arena("p.p(a).p(b).p(a,a).p(a,b).p(a,c).p(a,a,a).p(a,a,b).p(a,a,c).p(a,a,d).a(0).z(0).R(a).I(0).N(0).L(a,0).G(a,0).E.");
        sentence("Promise 7: a name with a number of terms, 0 .. 3");
        int[] counts = {1, 2, 3, 4};
        for (int terms = 0; terms <= 3; terms++) {
            int n = terms;
            due("p with " + n, () -> x.facts('p', n), counts[n]);
        }
        due("a", () -> x.facts('a', 1), 1);
        due("z", () -> x.facts('z', 1), 1);
        sentence("Promise 7: a keyword with its number of terms");
        String keywords = "RITNDLGE";
        int[] due = {1, 1, 1, 1, 2, 2, 2, 0};
        for (int k = 0; k < keywords.length(); k++) {
            char keyword = keywords.charAt(k);
            for (int terms = -1; terms <= 4; terms++) {
                int n = terms;
                due(keyword + " with " + n, () -> x.facts(keyword, n), n == due[keywords.indexOf(keyword)] && keyword != 'D' ? 1 : 0);
            }
        }
        sentence("Promise 7: 0 if there is none such");
        for (char name : "aopqz".toCharArray()) {
            due(name + " with 4 terms", () -> x.facts(name, 4), 0);
            for (int far : FAR) {
                due(name + " with " + far + " terms", () -> x.facts(name, far), 0);
            }
        }
        due("another name", () -> x.facts('q', 1), 0);
        for (char c : new char[] {0, ' ', '0', 'A', 'S', 'U', 'Z', '[', '`', '{', '~', 'p' + 256, 'R' + 256, 0xFFFF}) {
            due("the character " + (int) c, () -> x.facts(c, 1), 0);
        }
        sentence("Promise 7: 0 without rules");
        due("R", () -> new RuleArena().facts('R', 1), 0);
        due("p", () -> new RuleArena().facts('p', 0), 0);
    }

    private static void countsOfMany() {
        sentence("Promise 6: 0 for all without rules, NONE for another what");
        RuleArena none = new RuleArena();
        RuleArena x = arena(NIM);
        for (int what = 0; what <= 2; what++) {
            int w = what;
            due("many(" + w + ")", () -> none.many(w), 0);
        }
        due("many(3)", () -> none.many(3), -1);
        due("many(3) with rules", () -> x.many(3), -1);
        for (int far : FAR) {
            due("many(" + far + ")", () -> none.many(far), -1);
            due("many(" + far + ") with rules", () -> x.many(far), -1);
        }
        sentence("Promise 6: how many terms in the state");
        RuleArena y = arena("R(a).R(b).I(0).I(1).L(a,0).L(b,0).N(2):T(0).E:~T(0),~T(2).");
        due("two", () -> y.many(1), 2);
        y.play(0, 0);
        due("one", () -> y.many(1), 1);
        y.play(0, 0);
        due("none", () -> y.many(1), 0);
        sentence("Promise 9: 1 if the state is an end, 0 if not; NONE without rules");
        due("an end", y::over, 1);
        y.restart();
        due("no end", y::over, 0);
        due("without rules", none::over, -1);
    }

    private static void letters() {
        RuleArena x = arena("R(a).R(f(a,b,c)).I(0).I(f(1)).I(f(1,2)).I(f(1,2,3)).L(a,m).L(a,n(x)).L(f(a,b,c),g(0,1)).");
        sentence("Promise 11: character i of the text of a term");
        String[][] texts = {{"a", "f(a,b,c)"}, {"0", "f(1)", "f(1,2)", "f(1,2,3)"}, {"m", "n(x)"}, {"g(0,1)"}};
        for (int what = 0; what < 4; what++) {
            for (int k = 0; k < texts[what].length; k++) {
                String text = texts[what][k];
                for (int i = -1; i <= text.length(); i++) {
                    int w = what;
                    int term = k;
                    int at = i;
                    int want = i >= 0 && i < text.length() ? text.charAt(i) : -1;
                    due("letter(" + w + ", " + k + ", " + i + ")", () -> x.letter(w, term, at), want);
                }
            }
        }
        sentence("Promise 11: NONE if there is none such");
        for (int what = 0; what < 4; what++) {
            int w = what;
            due("k behind the last", () -> x.letter(w, texts[w].length, 0), -1);
            for (int far : FAR) {
                due("k = " + far, () -> x.letter(w, far, 0), -1);
                due("i = " + far, () -> x.letter(w, texts[w].length - 1, far), -1);
                due("what = " + far, () -> x.letter(far, 0, 0), -1);
            }
            due("without rules", () -> new RuleArena().letter(w, 0, 0), -1);
        }
        due("what = 4", () -> x.letter(4, 0, 0), -1);
        RuleArena lone = arena("R(a).L(a,0).L(b,1).");
        due("one role has no player 1", () -> lone.letter(3, 0, 0), -1);
        due("and no second role", () -> lone.letter(0, 1, 0), -1);
        due("no terms", () -> lone.letter(1, 0, 0), -1);
        sentence("Promise 11: of more than two roles each has its text, but only two have moves");
        RuleArena three = arena("R(c).R(b).R(a).L(a,0).L(b,1).L(c,2).");
        due("roles", () -> spellAll(three, 0), "a b c");
        due("player 0", () -> spellAll(three, 2), "0");
        due("player 1", () -> spellAll(three, 3), "1");
    }

    public static void main(String[] args) {
        orderOfTerms();
        constantsAlone();
        variables();
        andSoOn();
        whatHolds();
        atMost200Facts();
        productOf100000();
        productInTheEnd();
        factsOfMoves();
        atMost24Terms();
        statesWithoutMoves();
        rolesAndPlayers();
        goals();
        countsOfFacts();
        countsOfMany();
        letters();
        finish();
    }
}
