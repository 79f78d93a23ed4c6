/** Each promise of the document by its number: ordinary inputs, the edges that it names, wrong inputs. */
public final class PromiseTest extends Checks {
    private static void newObject() {
        RuleArena x = new RuleArena();
        due(1, "NONE", () -> RuleArena.NONE, -1);
        due(1, "restart()", x::restart, false);
        due(1, "over()", x::over, -1);
        for (int k = 0; k < 3; k++) {
            int what = k;
            due(1, "many", () -> x.many(what), 0);
            due(1, "moves", () -> x.moves(what), -1);
            due(1, "goal", () -> x.goal(what), -1);
            due(1, "letter", () -> x.letter(what, 0, 0), -1);
        }
        due(1, "fault(0)", () -> x.fault(0), 0);
        due(1, "fault(1)", () -> x.fault(1), 0);
        due(1, "facts", () -> x.facts('R', 1), 0);
        due(1, "play", () -> x.play(0, 0), "IllegalStateException");
        due(1, "audit", x::audit, "IllegalStateException");
        due(1, "worth", x::worth, "IllegalStateException");
        due(1, "best", x::best, "IllegalStateException");
        due(1, "load", x::load, "IllegalArgumentException");
        due(1, "fault(0)", () -> x.fault(0), 1);
        due(1, "fault(1)", () -> x.fault(1), 0);
    }

    private static void writing() {
        RuleArena x = new RuleArena();
        due(2, "zeros are passed over", () -> x.write(0x5200280061002900L), true);
        due(2, "nothing but zeros", () -> x.write(0), true);
        due(2, "31", () -> x.write(0x2E1FL), false);
        due(2, "127", () -> x.write(0x2E7FL), false);
        due(2, "a high bit", () -> x.write(0x80L << 56 | '.'), false);
        due(2, "-1", () -> x.write(-1L), false);
        due(2, "a wrong last one", () -> x.write(eight("p.q.r.s") << 8 | 1), false);
        due(2, "the point", () -> x.write('.'), true);
        due(2, "the sheet is R(a).", x::load, 1);
        due(2, "the role", () -> spellAll(x, 0), "a");
        RuleArena edges = new RuleArena();
        due(2, "32 and 126", () -> edges.write(0x207EL), true);
        RuleArena full = new RuleArena();
        put(full, "p(f(a,b,c),f(a,b,c),f(a,b,c)).".repeat(7));
        put(full, "q(a,b).r(a,b).s(a,b).t(a,b,c)");
        due(2, "two too many", () -> full.write(eight("..")), false);
        due(2, "one behind zeros", () -> full.write((long) '.' << 56), true);
        due(2, "the 241st", () -> full.write('.'), false);
        due(2, "nothing at 240", () -> full.write(0), true);
        due(2, "240 characters", full::load, 11);
    }

    private static void wiping() {
        RuleArena x = new RuleArena();
        put(x, "p.q(");
        x.wipe();
        loadDue(x, "p.q.", 2);
        put(x, "p.");
        x.wipe();
        due(3, "load of an empty sheet", x::load, "IllegalArgumentException");
        due(3, "the rules stay", () -> x.facts('q', 0), 1);
    }

    private static void textFaults() {
        sentence("promises 4 and 5");
        Object[][] rows = {
            {"", 0}, {"P.", 0}, {" p.", 0}, {"U.", 0}, {"0.", 0}, {"~p.", 0}, {".", 0}, {"p", 1}, {"p(", 2}, {"p().", 2},
            {"p(a", 3}, {"p(a)", 4}, {"p(a,).", 4}, {"p(a b).", 3}, {"p(a,b,c,d).", 7}, {"p(f(a,b,c,d)).", 9},
            {"p(f(g(a))).", 5}, {"p(f()).", 4}, {"p(0(a)).", 3}, {"p(U(a)).", 3}, {"p(R(a)).", 2}, {"p(A).", 2},
            {"E(a).", 1}, {"R.", 1}, {"R(a,b).", 3}, {"D(a).", 3}, {"D(a,b,c).", 5}, {"T", 1}, {"S(a).", 0}, {"I().", 2},
            {"p:.", 2}, {"p:", 2}, {"p:q", 3}, {"p:q,.", 4}, {"p:~.", 3}, {"p:~~q.", 3}, {"p:~a#b.", 4}, {"p:U.", 3},
            {"p:0.", 3}, {"p:a#.", 4}, {"p:a#", 4}, {"p:f(g(a))#b.", 9}, {"p:R(a)#b.", 6}, {"p:E#a.", 3}, {"p:a#b#c.", 5},
            {"p:a#E.", 4}, {"p:f(a,b,c,d)#a.", 9}, {"p:a:b.", 3}, {"p..", 2}, {"p.q", 3}, {"p.Q.", 2}, {"p. q.", 2},
            {"p:a,b,c,d,e,f.", 12}, {"p:a,b,c,d,e,.", 12}, {"p:a,b,c,d,e,", 12}, {"p:a,b,c,d,e:", 11},
            {"p.".repeat(25), 48}, {"p.".repeat(24) + " ", 48}, {"p.".repeat(23) + "p", 47}
        };
        for (Object[] row : rows) {
            faultDue((String) row[0], 1, (Integer) row[1]);
        }
    }

    private static void ruleFaults() {
        sentence("promises 4 and 5");
        faultDue("T(a).", 2, 0);
        faultDue("p.D(a,b).", 2, 1);
        faultDue("p:I(a).", 2, 0);
        faultDue("p:q,~N(a).", 2, 0);
        faultDue("p.q.R(a):p.", 2, 2);
        faultDue("R(a).R(U).", 2, 1);
        faultDue("R(f(a,U)).", 2, 0);
        faultDue("p(U).T(a).", 2, 1);
        faultDue("p.p(U).", 3, 1);
        faultDue("p:~q(U).", 3, 0);
        faultDue("p:U#a.", 3, 0);
        faultDue("p:f(U)#b.", 3, 0);
        faultDue("p(f(a,U)):q(V).", 3, 0);
        faultDue("p(U):~q(U),U#a.", 3, 0);
        faultDue("p:q(U),U#f(V).", 3, 0);
        faultDue("p:~p.q(U).", 3, 1);
        faultDue("p:~p.", 4, 0);
        faultDue("q:p.p:~q.", 4, 1);
        faultDue("p:~q.q:r.r:~p.", 4, 0);
        faultDue("p:q.q:r.r:~p.", 4, 2);
        faultDue("q:p.p:~r.r:q.", 4, 1);
        faultDue("I(a):T(a).p:~p.", 4, 1);
        faultDue("I(a):T(a).", 5, 0);
        faultDue("p:E.q.I(a).I(b):~p.", 5, 2);
        faultDue("I(a):D(a,a).", 5, 0);
        faultDue("I(a):L(a,a).", 5, 0);
        faultDue("I(a):~G(a,1).", 5, 0);
        faultDue("L(a,b).L(a,c):D(a,b).", 5, 0);
        faultDue("p:D(a,b).q:p.E:~q.", 5, 2);
        faultDue("G(a,1):~p.p:D(a,a).", 5, 0);
    }

    private static void noFaults() {
        sentence("promises 4 and 5");
        RuleArena x = new RuleArena();
        due(5, "without a load", () -> x.fault(0), 0);
        loadDue(x, "p(U):q(U),~p(a,b).p(a,b):q(a).", 2);
        loadDue(x, "p:q.q:p.p(f(U)):q(f(U)),V#U,q(V).", 3);
        loadDue(x, "R(a).I(U):R(U).p:D(a,a).N(U):D(U,V),L(U,V),~T(V),~p.", 4);
        loadDue(x, "p:a,b,c,d,e.", 1);
        loadDue(x, "p.".repeat(24), 24);
        loadDue(x, "p:f(U)#b,f(U),f(a,b)#U,0#V,q(V).", 1);
        loadDue(x, "R(f(0,9,z)).E.E:E.", 3);
        loadDue(x, "p:~~q.", "IllegalArgumentException");
        loadDue(x, "p.", 1);
        due(5, "fault(0) behind a good load", () -> x.fault(0), 0);
        due(5, "fault(1) behind a good load", () -> x.fault(1), 0);
        due(5, "fault(2)", () -> x.fault(2), -1);
        due(5, "fault(-1)", () -> x.fault(-1), -1);
        due(5, "fault(least)", () -> x.fault(Integer.MIN_VALUE), -1);
    }

    private static void limits() {
        sentence("promises 4 and 5");
        RuleArena x = arena("R(a).I(0).");
        x.audit();
        String all = "IllegalStateException";
        // 9 + 81 + 81 + 27 are 198 facts.
        String many = things(9) + "w(U,V):k(U),k(V).x(U,V):k(U),k(V).y(U,a):k(U).y(U,b):k(U).y(U,c):k(U).";
        loadDue(x, many + "z.u.", 16);
        due(4, "facts", () -> x.facts('x', 2), 81);
        loadDue(x, "R(a).R(b).I(0).I(1).", 4);
        x.audit();
        loadDue(x, many + "z.u.v.", all);
        due(5, "fault(0) of BEYOND", () -> x.fault(0), 0);
        due(5, "fault(1) of BEYOND", () -> x.fault(1), 0);
        due(4, "the rules stay", () -> x.many(0), 2);
        due(4, "the state stays", () -> x.many(1), 2);
        due(4, "the audit stays", () -> x.many(2), 1);
        due(4, "what follows stays", () -> x.facts('T', 1), 2);
        // 200 facts with the state's own term count it in.
        loadDue(x, many + "z.I(0).", all);
        loadDue(x, many + "I(0).", 15);
        // Only from nothing there is too much.
        loadDue(x, "I(0)." + things(6) + "w(U,V,W):k(U),k(V),k(W),~T(0).", all);
        loadDue(x, "I(0)." + things(6) + "w(U,V,W):k(U),k(V),k(W),~T(1),T(0).", all);
        loadDue(x, "I(0)." + things(6) + "w(U,V,W):k(U),k(V),k(W),T(1).", 8);
        // Ten to the fifth is not above it, and what has ~ or # does not count.
        loadDue(x, things(10) + "z:k(U),k(V),k(W),k(X),k(Y).", 11);
        due(4, "z", () -> x.facts('z', 0), 1);
        loadDue(x, things(11) + "z:k(U),k(V),k(W),k(X),k(Y).", all);
        loadDue(x, things(18) + "z:k(U),k(V),k(W),k(X),k.", 19);
        due(4, "z", () -> x.facts('z', 0), 0);
        loadDue(x, things(18) + "z:k(U),k(V),k(W),k(X),k.k.", all);
        loadDue(x, things(17) + "z:k(U),k(V),k(W),k(X),~k.", 18);
        loadDue(x, things(18) + "z:k(U),k(V),k(W),~k(a,U),U#V.", 19);
        // What comes at the end of a circle counts, too.
        loadDue(x, things(10) + "k(a):z.z:k(U),k(V),k(W),k(X),k(Y).", all);
        // 4 times 6 terms, then 5 times 5.
        loadDue(x, things(4) + "j(0).j(1).j(2).j(3).j(4).j(5).I(f(U,V)):k(U),j(V).", 11);
        due(4, "24 terms", () -> x.many(1), 24);
        loadDue(x, things(5) + "I(f(U,V)):k(U),k(V).", all);
        due(4, "24 terms stay", () -> x.many(1), 24);
        due(4, "and are in order", () -> spell(x, 1, 23), "f(3,5)");
        RuleArena none = new RuleArena();
        loadDue(none, things(5) + "R(a).L(a,a).E.I(f(U,V)):k(U),k(V).", all);
        due(4, "still no rules", none::over, -1);
        due(4, "still no roles", () -> none.many(0), 0);
        due(4, "still no facts", () -> none.facts('k', 1), 0);
        due(4, "still no moves", () -> none.moves(0), -1);
        due(4, "still no first state", none::restart, false);
    }

    private static void counts() {
        RuleArena x = arena(NIM);
        due(6, "roles", () -> x.many(0), 2);
        due(6, "terms", () -> x.many(1), 2);
        due(6, "before the audit", () -> x.many(2), 0);
        x.worth();
        due(6, "made for worth", () -> x.many(2), 8);
        due(6, "many(3)", () -> x.many(3), -1);
        due(6, "many(-1)", () -> x.many(-1), -1);
        loadDue(x, NIM, 18);
        due(6, "new rules, no audit", () -> x.many(2), 0);
        x.best();
        due(6, "made for best", () -> x.many(2), 8);
        loadDue(x, "p", "IllegalArgumentException");
        due(6, "the audit stays", () -> x.many(2), 8);
        RuleArena lone = arena("R(f(b)).R(f(a)).R(c).");
        due(6, "three roles", () -> lone.many(0), 3);
        due(6, "no terms", () -> lone.many(1), 0);
        lone.audit();
        due(6, "over early", () -> lone.many(2), 1);
    }

    private static void following() {
        RuleArena x = arena(NIM);
        due(7, "R", () -> x.facts('R', 1), 2);
        due(7, "T", () -> x.facts('T', 1), 2);
        due(7, "I", () -> x.facts('I', 1), 2);
        due(7, "D", () -> x.facts('D', 2), 0);
        due(7, "E", () -> x.facts('E', 0), 0);
        due(7, "s", () -> x.facts('s', 2), 4);
        due(7, "s with 1", () -> x.facts('s', 1), 0);
        due(7, "N without D", () -> x.facts('N', 1), 1);
        due(7, "L", () -> x.facts('L', 2), 3);
        due(7, "L with 1", () -> x.facts('L', 1), 0);
        due(7, "R with 0", () -> x.facts('R', 0), 0);
        due(7, "no name", () -> x.facts('A', 1), 0);
        due(7, "a far character", () -> x.facts((char) 0xFFFF, 2), 0);
        due(7, "4 terms", () -> x.facts('s', 4), 0);
        due(7, "-1 terms", () -> x.facts('s', -1), 0);
        due(7, "many terms", () -> x.facts('s', 1 << 30), 0);
        // 0 -> 1 -> 2 -> 3 -> 1: from 0 one comes to 3, from each other one to 3, too.
        RuleArena path = arena("e(0,1).e(1,2).e(2,3).e(3,1).y(U,V):e(U,V).y(U,V):y(U,W),y(W,V).c(U):y(U,U)."
                + "n(U,V):e(U,W),e(X,V),~y(U,V).d:~c(0),c(1).");
        due(7, "ways", () -> path.facts('y', 2), 12);
        due(7, "circles", () -> path.facts('c', 1), 3);
        due(7, "no ways", () -> path.facts('n', 2), 0);
        due(7, "layers", () -> path.facts('d', 0), 1);
        // Of the p none but constants may stand for U, for it stands in a compound; for V also compounds may.
        RuleArena flat = arena("p(0).p(f(1)).p(f(1,2)).q(g(U)):p(U).r(V):p(V).s(U):p(U),~t(f(U)).u(U,V):p(U),p(V),U#V."
                + "v(U):p(f(U)).w(V,U):p(f(U,V)).x(U):p(U),g(U)#V,p(V).y:p(0),p(f(1)),0#f(0).z(U):v(U),w(V,U),~p(U).");
        due(7, "q", () -> flat.facts('q', 1), 1);
        due(7, "r", () -> flat.facts('r', 1), 3);
        due(7, "s", () -> flat.facts('s', 1), 1);
        due(7, "u", () -> flat.facts('u', 2), 6);
        due(7, "v", () -> flat.facts('v', 1), 1);
        due(7, "w", () -> flat.facts('w', 2), 1);
        due(7, "x", () -> flat.facts('x', 1), 1);
        due(7, "y", () -> flat.facts('y', 0), 1);
        due(7, "z", () -> flat.facts('z', 1), 1);
        RuleArena odd = arena("p(0).p(f(1)).q(U):f(U)#a,p(U).r(U):p(U),~t(0,f(0,0,U)).y:f(a)#g(a).x:g(a)#g(a).z:z#y.w:z#z."
                + "v:g(a,b)#g(a,c).u:g(a,b,c)#g(a,b,c).s:f#f(a).");
        due(7, "U stands in a compound of the first literal", () -> odd.facts('q', 1), 1);
        due(7, "U stands in the last part of a compound", () -> odd.facts('r', 1), 1);
        for (char c : "yxzwvus".toCharArray()) {
            due(7, "unlike: " + c, () -> odd.facts(c, 0), "xwu".indexOf(c) < 0 ? 1 : 0);
        }
        RuleArena six = arena("p(1,2,3).p(4,5,6).q(f(U,V,W),g(Z,Y,X)):p(U,V,W),p(X,Y,Z),U#X.r(Z,Y,X):q(f(X,Y,Z),U)."
                + "s(Z):q(f(X,Y,Z),g(U,V,W)),p(X,Y,Z),p(W,V,U).t(Z):p(X,Y,Z),q(f(X,Y,Z),g(U,V,W)),W#4.u(Z,Y):p(X,Y,Z).v(Z):p(Z,V,W).");
        due(7, "six variables", () -> six.facts('q', 2), 2);
        due(7, "three parts", () -> six.facts('r', 3), 2);
        due(7, "six again", () -> six.facts('s', 1), 2);
        due(7, "one of two", () -> six.facts('t', 1), 1);
        due(7, "Z and Y", () -> six.facts('u', 2), 2);
        due(7, "Z alone", () -> six.facts('v', 1), 2);
        // U is bound by v when w is asked, so its compounds are compared part by part.
        RuleArena part = arena("v(1).v(2).w(f(1),a).w(f(3),a).w(f(1,2),b).w(g(2),c).w(1,d).w(f(2),e).w(f(2),f).r(V):v(U),w(f(U),V)."
                + "s(V):v(U),w(f(U,X),V).t(U):w(f(U,X),V),v(X).");
        due(7, "r", () -> part.facts('r', 1), 3);
        due(7, "s", () -> part.facts('s', 1), 1);
        due(7, "t", () -> part.facts('t', 1), 1);
        // 0 -> 1 -> 2 -> 0 and 2 -> 3; y never comes back to where it began, z never goes over 1.
        RuleArena tests = arena("e(0,1).e(1,2).e(2,0).e(2,3).y(U,V):e(U,V).y(U,V):U#V,y(U,W),e(W,V).z(U,V):e(U,V)."
                + "z(U,V):z(U,W),~b(W),z(W,V).b(1).");
        due(7, "a circle of rules with #", () -> tests.facts('y', 2), 9);
        due(7, "a circle of rules with ~", () -> tests.facts('z', 2), 8);
        RuleArena late = arena("p(V):v(Z),w(Z,V).v(1).w(1,a).w(2,b).w(1,c).");
        due(7, "the first rule needs the later ones", () -> late.facts('p', 1), 2);
        RuleArena tower = arena("x:~w.w:~v.v:~u.u:~t.t:~s.s:~r.r:~q.q:~p.p:~o.o:~n.n:~m.m:~l.l:~k.k:~j.j:~i.i:~h.h:~g.g:~f.f:~e.e:~d.d:~c."
                + "c:~b.b:~a.a.");
        for (char c = 'a'; c <= 'x'; c++) {
            char name = c;
            due(7, "24 layers: " + c, () -> tower.facts(name, 0), (c - 'a') % 2 == 0 ? 1 : 0);
        }
        RuleArena twice = arena("p(0,0).p(0,1).p(f(0),0).p(f(1),0).q(U):p(U,U).r(U):p(f(U),U).s(f(U,U)):p(U,V).t(V):p(U,V),U#V.");
        due(7, "q(U):p(U,U)", () -> twice.facts('q', 1), 1);
        due(7, "r(U):p(f(U),U)", () -> twice.facts('r', 1), 1);
        due(7, "s(f(U,U)):p(U,V)", () -> twice.facts('s', 1), 1);
        due(7, "t(V):p(U,V),U#V", () -> twice.facts('t', 1), 2);
    }

    private static void moving() {
        RuleArena x = arena(NIM);
        due(8, "moves(0)", () -> x.moves(0), 2);
        due(8, "moves(1)", () -> x.moves(1), 1);
        due(8, "moves(2)", () -> x.moves(2), -1);
        due(8, "moves(-1)", () -> x.moves(-1), -1);
        RuleArena lone = arena("R(a).L(a,0).L(b,1).L(b,2).");
        due(8, "of one role", () -> lone.moves(0), 1);
        due(8, "of one role, player 1", () -> lone.moves(1), -1);
        RuleArena three = arena("R(c).R(b).R(a).L(a,0).L(c,1).L(c,2).");
        due(8, "of three roles", () -> three.moves(0), 1);
        due(8, "of three roles, player 1", () -> three.moves(1), 0);
        due(8, "of three roles, the third", () -> three.moves(2), -1);
        due(8, "of no roles", () -> arena("L(a,0).").moves(0), -1);
    }

    private static void ending() {
        RuleArena x = arena(NIM);
        due(9, "over()", x::over, 0);
        x.play(0, 0);
        x.play(0, 0);
        due(9, "over() at 0", x::over, 1);
        x.restart();
        due(9, "over() again", x::over, 0);
        due(9, "over() without roles", () -> arena("E.").over(), 1);
    }

    private static void goals() {
        RuleArena x = arena(NIM);
        due(10, "goal(0)", () -> x.goal(0), 0);
        due(10, "goal(1)", () -> x.goal(1), 8);
        due(10, "goal(2)", () -> x.goal(2), -1);
        due(10, "goal(-1)", () -> x.goal(-1), -1);
        due(10, "9", () -> arena("R(a).G(a,9).").goal(0), -1);
        due(10, "a letter", () -> arena("R(a).G(a,b).").goal(0), -1);
        due(10, "a compound", () -> arena("R(a).G(a,f(1)).").goal(0), -1);
        due(10, "two", () -> arena("R(a).G(a,1).G(a,2).").goal(0), -1);
        due(10, "one and another term", () -> arena("R(a).G(a,1).G(a,x).").goal(0), -1);
        due(10, "one twice", () -> arena("R(a).G(a,1).G(a,1).G(b,2).").goal(0), 1);
        due(10, "another one's", () -> arena("R(a).G(b,2).").goal(0), -1);
        due(10, "no such player", () -> arena("R(a).G(b,2).").goal(1), -1);
    }

    private static void letters() {
        RuleArena x = arena("R(b).R(a).R(f(a)).I(f(a,b)).I(f).I(f(a)).I(f(b)).I(f(a,b,0)).I(9).I(g).I(f(0)).I(f(a,a)).I(a)."
                + "L(a,z).L(a,f(z)).L(a,2).L(b,y).");
        due(11, "roles", () -> spellAll(x, 0), "a b f(a)");
        due(11, "terms", () -> spellAll(x, 1), "9 a f f(0) f(a) f(a,a) f(a,b) f(a,b,0) f(b) g");
        due(11, "moves of 0", () -> spellAll(x, 2), "2 f(z) z");
        due(11, "moves of 1", () -> spellAll(x, 3), "y");
        due(11, "what 4", () -> x.letter(4, 0, 0), -1);
        due(11, "what -1", () -> x.letter(-1, 0, 0), -1);
        due(11, "k -1", () -> x.letter(0, -1, 0), -1);
        due(11, "k 3", () -> x.letter(0, 3, 0), -1);
        due(11, "i -1", () -> x.letter(0, 0, -1), -1);
        due(11, "i 1", () -> x.letter(0, 0, 1), -1);
        due(11, "the least i", () -> x.letter(1, 7, Integer.MIN_VALUE), -1);
        due(11, "the greatest i", () -> x.letter(1, 7, Integer.MAX_VALUE), -1);
        due(11, "the greatest k", () -> x.letter(1, Integer.MAX_VALUE, 0), -1);
        due(11, "no player 1", () -> arena("R(a).L(a,0).L(b,1).").letter(3, 0, 0), -1);
    }

    private static void playing() {
        RuleArena x = arena(NIM);
        due(12, "a too large", () -> x.play(2, 0), "IndexOutOfBoundsException");
        due(12, "a below 0", () -> x.play(-1, 0), "IndexOutOfBoundsException");
        due(12, "b too large", () -> x.play(0, 1), "IndexOutOfBoundsException");
        due(12, "b below 0", () -> x.play(0, Integer.MIN_VALUE), "IndexOutOfBoundsException");
        due(12, "nothing is changed", () -> spellAll(x, 1), "4 a");
        due(12, "play(1, 0)", () -> x.play(1, 0), 2);
        due(12, "the state", () -> spellAll(x, 1), "3 b");
        due(12, "moves of 0", () -> spellAll(x, 2), "n");
        due(12, "moves of 1", () -> spellAll(x, 3), "1 2");
        due(12, "play(0, 1)", () -> x.play(0, 1), 2);
        due(12, "play(0, 0)", () -> x.play(0, 0), 2);
        due(12, "the end", () -> spellAll(x, 1), "0 b");
        due(12, "at an end", () -> x.play(0, 0), "IllegalStateException");
        due(12, "at an end, no such move", () -> x.play(9, 9), "IllegalStateException");
        due(12, "one role", () -> arena("R(a).L(a,0).").play(0, 0), "IllegalStateException");
        due(12, "three roles", () -> arena("R(a).R(b).R(c).L(a,0).L(b,0).").play(0, 0), "IllegalStateException");
        RuleArena fall = arena("R(a).R(b).I(0).L(a,0).L(b,0).");
        due(12, "to the empty state", () -> fall.play(0, 0), 0);
        due(12, "no terms", () -> fall.many(1), 0);
        RuleArena both = arena("R(a).R(b).I(0).L(a,0).L(a,1).L(b,2).L(b,3).N(f(U,V)):D(U,V).N(U):T(U).");
        due(12, "play(1, 0)", () -> both.play(1, 0), 3);
        due(12, "D of both", () -> spellAll(both, 1), "0 f(a,1) f(b,2)");
        due(12, "no D stays", () -> both.facts('D', 2), 0);
    }

    private static void playingBeyond() {
        String begin = "R(a).R(b).I(0).L(a,0).L(a,1).L(b,0)." + things(6);
        String[] ends = {"N(f(U,V)):D(a,1),k(U),k(V).", "w(U,V,W):D(a,1),k(U),k(V),k(W).", "N(x):D(a,1).w(U,V,W):T(x),k(U),k(V),k(W).",
            "w:D(a,1),k(U),k(V),k(W),v(X,Y).v(U,V):k(U),k(V).v(U,f(V)):k(U),k(V).v(f(U),V):k(U),k(V)."};
        // In the fourth sheet 108 facts v make 2 * 6 * 6 * 6 * 108, no more than allowed.
        Object[] due = {"IllegalStateException", "IllegalStateException", "IllegalStateException", 0};
        for (int k = 0; k < ends.length; k++) {
            RuleArena x = arena(begin + ends[k]);
            int want = k;
            due(12, "no such move, " + ends[k], () -> x.play(2, 0), "IndexOutOfBoundsException");
            due(12, "play(1, 0), " + ends[k], () -> x.play(1, 0), due[want]);
            if (k < 3) {
                due(12, "the state stays", () -> spellAll(x, 1), "0");
                due(12, "T stays", () -> x.facts('T', 1), 1);
                due(12, "w stays", () -> x.facts('w', 3), 0);
                due(12, "N stays", () -> x.facts('N', 1), 0);
                due(12, "D stays", () -> x.facts('D', 2), 0);
                due(12, "the moves stay", () -> x.moves(0), 2);
                due(12, "the other move", () -> x.play(0, 0), 0);
            }
        }
    }

    private static void restarting() {
        RuleArena x = arena(NIM);
        x.audit();
        x.play(0, 0);
        x.play(0, 0);
        due(13, "restart()", x::restart, true);
        due(13, "the state", () -> spellAll(x, 1), "4 a");
        due(13, "the moves", () -> spellAll(x, 2), "2 3");
        due(13, "what follows", () -> x.facts('E', 0), 0);
        due(13, "the audit", () -> x.many(2), 8);
        due(13, "restart() of the first state", x::restart, true);
    }

    private static void auditDue(String text, int outcome, int states) {
        RuleArena x = arena(text);
        due(14, "audit of " + text, x::audit, outcome);
        due(14, "states of " + text, () -> x.many(2), states);
        due(14, "audit again of " + text, x::audit, outcome);
        due(14, "states again of " + text, () -> x.many(2), states);
    }

    private static void auditing() {
        auditDue(NIM, 0, 8);
        auditDue("p.", 1, 1);
        auditDue("R(a).I(0).", 1, 1);
        auditDue("R(a).R(b).R(c).E.", 1, 1);
        auditDue("R(a).R(b).", 2, 1);
        auditDue("R(a).R(b).L(a,0).", 2, 1);
        auditDue("R(a).R(b).L(b,0).L(b,1).", 2, 1);
        auditDue("R(a).R(b).L(a,0).L(a,1).L(b,0).L(b,1).", 3, 1);
        auditDue("R(a).R(b).E.G(a,8).", 4, 1);
        auditDue("R(a).R(b).E.G(a,8).G(b,0).G(b,1).", 4, 1);
        auditDue("R(a).R(b).E.G(a,8).G(b,1).", 5, 1);
        auditDue("R(a).R(b).E.G(a,3).G(b,5).", 0, 1);
        // An end needs no moves, and there nobody cares whether both have more than one.
        auditDue("R(a).R(b).E.G(a,3).G(b,5).L(a,0).L(a,1).L(b,0).L(b,1).", 0, 1);
        auditDue("R(a).R(b).L(a,0).L(b,0).", 6, 1);
        auditDue("R(a).R(b).I(0).L(a,0).L(b,0).N(1):T(0).N(2):T(1).N(0):T(2).", 6, 3);
        auditDue("R(a).R(b).I(0).L(a,0).L(a,1).L(b,0).N(1):T(0),D(a,1).E:T(1).G(a,8).G(b,0).", 6, 3);
        auditDue("R(a).R(b).I(0).L(a,0).L(b,0).N(1):T(0).", 6, 3);
    }

    private static void auditingBeyond() {
        String begin = "R(a).R(b).I(0).L(a,0).L(a,1).L(b,0)." + things(6);
        auditDue(begin + "N(f(U,V)):D(a,1),k(U),k(V).", 7, 2);
        auditDue(begin + "w(U,V,W):D(a,0),k(U),k(V),k(W).", 7, 1);
        auditDue(begin + "N(x):D(a,1).w(U,V,W):T(x),k(U),k(V),k(W).", 7, 3);
        // What follows is asked before the end is.
        auditDue(begin + "E:T(x).N(x).w(U,V,W):T(x),k(U),k(V),k(W).", 7, 2);
        String line = "R(a).R(b).I(f(0,0)).L(U,n):R(U).G(a,3).G(b,5)." + LINE
                + "N(f(U,W)):T(f(U,V)),s(V,W).N(f(W,0)):T(f(U,9)),s(U,W).";
        auditDue(line + "E:T(f(5,9)).", 0, 60);
        auditDue(line + "E:T(f(6,0)).", 7, 60);
        String sets = "R(a).R(b).L(a,U):k(U),~T(U).L(b,i).N(U):T(U).N(U):D(a,U).l:k(U),~T(U).E:~l.G(a,8).G(b,0).";
        auditDue(sets + things(5), 0, 32);
        auditDue(sets + things(6), 7, 60);
        RuleArena x = arena(line + "E:T(f(5,9)).");
        x.play(0, 0);
        x.audit();
        due(14, "the audit leaves the state", () -> spellAll(x, 1), "f(0,1)");
        due(14, "the audit leaves what follows", () -> x.facts('T', 1), 1);
        due(14, "the audit leaves the moves", () -> x.moves(1), 1);
        due(14, "the audit leaves the end", x::over, 0);
    }

    private static void weighing() {
        RuleArena x = arena(NIM);
        due(15, "worth of 4 a", x::worth, 8);
        due(16, "best of 4 a", x::best, 256);
        x.play(0, 0);
        due(15, "worth of 2 b", x::worth, 0);
        due(16, "best of 2 b", x::best, 0);
        x.restart();
        x.play(1, 0);
        due(15, "worth of 3 b", x::worth, 8);
        due(16, "best of 3 b", x::best, 0);
        x.play(0, 0);
        due(15, "worth of 1 a", x::worth, 8);
        x.play(0, 0);
        due(15, "worth of 0 b", x::worth, 8);
        due(16, "best of 0 b", x::best, "NoSuchElementException");
        RuleArena other = arena(NIM.replace("I(a)", "I(b)"));
        due(15, "worth of 4 b", other::worth, 0);
        due(16, "best of 4 b", other::best, 1);
        RuleArena bad = arena("R(a).R(b).E.G(a,8).G(b,8).");
        due(15, "not sound", bad::worth, "UnsupportedOperationException");
        due(16, "not sound, and an end", bad::best, "UnsupportedOperationException");
        due(16, "no rules", () -> new RuleArena().best(), "IllegalStateException");
        due(15, "no rules", () -> new RuleArena().worth(), "IllegalStateException");
    }

    /** Player 1 chooses among 3, 5, 2, then 0 among 7, 2, 4 (and both have one move in between). */
    private static void choosing() {
        String end = "N(V):D(U,V).E:T(U),v(U).G(a,U):E,T(U).G(b,V):G(a,U),w(U,V).w(U,V):v(U),v(V),x(U,V)."
                + "v(2).v(3).v(4).v(5).v(6).x(3,5).x(5,3).x(2,6).x(6,2).x(4,4).";
        RuleArena least = arena("R(a).R(b).I(0).L(a,n).L(b,3).L(b,5).L(b,2)." + end.replace("N(V):D(U,V)", "N(V):D(b,V)"));
        due(15, "the least", least::worth, 2);
        due(16, "the least", least::best, 0);
        RuleArena most = arena("R(a).R(b).I(0).L(a,4).L(a,6).L(a,2).L(b,n)." + end.replace("N(V):D(U,V)", "N(V):D(a,V)"));
        due(15, "the greatest", most::worth, 6);
        due(16, "the greatest", most::best, 512);
        RuleArena one = arena("R(a).R(b).I(0).L(a,4).L(b,n)." + end.replace("N(V):D(U,V)", "N(V):D(a,V)"));
        due(15, "the only", one::worth, 4);
        due(16, "the only", one::best, 0);
        // Two moves of the same worth: the first one counts.
        RuleArena same = arena("R(a).R(b).I(0).L(a,1).L(a,2).L(a,3).L(b,n).N(U):D(a,U).E:T(U),k(U).k(1).k(2).k(3).G(a,5):T(2)."
                + "G(a,5):T(3).G(a,1):T(1).G(b,3):T(2).G(b,3):T(3).G(b,7):T(1).");
        due(15, "of the same worth", same::worth, 5);
        due(16, "of the same worth", same::best, 256);
    }

    public static void main(String[] args) {
        newObject();
        writing();
        wiping();
        textFaults();
        ruleFaults();
        noFaults();
        limits();
        counts();
        following();
        moving();
        ending();
        goals();
        letters();
        playing();
        playingBeyond();
        restarting();
        auditing();
        auditingBeyond();
        weighing();
        choosing();
        finish();
    }
}
