/** Playing, the audit, worth and best: the sentences that name a boundary case, on both sides of it. */
public final class GameEdgeTest extends Checks {
    private static final String ROLES = "R(a).R(b).";
    /** Player 0 leads the first state to 1 or to 2. */
    private static final String FORK = ROLES + "I(0).L(a,1):T(0).L(a,2):T(0).L(b,n).N(U):D(a,U).";
    /** The same by player 1. */
    private static final String FORK_OF_1 = ROLES + "I(0).L(b,1):T(0).L(b,2):T(0).L(a,n).N(U):D(b,U).";
    /** An end of each of these terms, with what it is worth and what is left of 8. */
    private static final String ENDS = "E:T(U),w(U,V).G(a,U):T(U),w(U,V).G(b,V):T(U),w(U,V).";
    private static final String SIX_CUBED = "w(U,V,W):T(%),k(U),k(V),k(W)." + things(6);
    /** States f(0,0), f(0,1) .. f(9,9), one behind the other. */
    private static final String ONE_BY_ONE = ROLES + "I(f(0,0)).L(U,n):R(U).G(a,3).G(b,5)." + LINE
            + "N(f(U,W)):T(f(U,V)),s(V,W).N(f(W,0)):T(f(U,9)),s(U,W).";

    private static void playInItsOrder() {
        sentence("Promise 12: IllegalStateException if there are no rules");
        RuleArena none = new RuleArena();
        idleDue(none, "play(0, 0)", () -> none.play(0, 0), ILLEGAL_STATE);
        idleDue(none, "play(-1, 0)", () -> none.play(-1, 0), ILLEGAL_STATE);
        sentence("Promise 12: IllegalStateException if there are not two roles");
        for (String roles : new String[] {"", "R(a).", "R(a).R(b).R(c)."}) {
            RuleArena x = arena(roles + "I(0).L(a,0).L(b,0).N(1).");
            idleDue(x, "play(0, 0) of " + roles, () -> x.play(0, 0), ILLEGAL_STATE);
            idleDue(x, "play(9, 9) of " + roles, () -> x.play(9, 9), ILLEGAL_STATE);
        }
        due("two roles", () -> arena(ROLES + "I(0).L(a,0).L(b,0).N(1).").play(0, 0), 1);
        sentence("Promise 12: IllegalStateException if it is an end");
        RuleArena end = arena(ROLES + "I(0).L(a,0).L(b,0).N(1).E:T(1).");
        due("to the end", () -> end.play(0, 0), 1);
        idleDue(end, "play(0, 0) at the end", () -> end.play(0, 0), ILLEGAL_STATE);
        sentence("Promise 12: no such moves are looked at behind the end");
        idleDue(end, "play(1, 0) at the end", () -> end.play(1, 0), ILLEGAL_STATE);
        sentence("Promise 12: no such moves are looked at ahead of what is BEYOND");
        RuleArena beyond = arena(ROLES + "L(a,0).L(b,0).N(f(U,V)):k(U),k(V)." + things(5));
        idleDue(beyond, "play(0, 0)", () -> beyond.play(0, 0), ILLEGAL_STATE);
        idleDue(beyond, "play(1, 0)", () -> beyond.play(1, 0), NO_INDEX);
        idleDue(beyond, "play(0, 1)", () -> beyond.play(0, 1), NO_INDEX);
    }

    private static void noSuchMoves() {
        sentence("Promise 12: IndexOutOfBoundsException if there are no such moves");
        RuleArena x = arena(ROLES + "I(0).L(a,0).L(a,1).L(a,2).L(b,3).L(b,4).N(U):D(V,U).");
        due("a behind the last", () -> x.play(3, 0), NO_INDEX);
        due("b behind the last", () -> x.play(0, 2), NO_INDEX);
        idleDue(x, "both behind the last", () -> x.play(3, 2), NO_INDEX);
        for (int far : FAR) {
            due("a = " + far, () -> x.play(far, 0), NO_INDEX);
            due("b = " + far, () -> x.play(0, far), NO_INDEX);
        }
        due("nothing is changed", () -> spellAll(x, 1), "0");
        due("the last ones", () -> x.play(2, 1), 2);
        due("lead to", () -> spellAll(x, 1), "2 4");
        x.restart();
        due("the first ones", () -> x.play(0, 0), 2);
        due("lead to", () -> spellAll(x, 1), "0 3");
        for (String one : new String[] {"L(a,0).", "L(b,0).", ""}) {
            RuleArena y = arena(ROLES + "I(0)." + one);
            idleDue(y, "play(0, 0) of " + one, () -> y.play(0, 0), NO_INDEX);
        }
        sentence("Promise 12: as many moves as can be");
        RuleArena many = arena(ROLES + "I(0).L(a,f(U,V)):k(U),k(V).L(b,0).N(U):D(a,U)." + things(13));
        due("169 moves", () -> many.moves(0), 169);
        due("the 170th", () -> many.play(169, 0), NO_INDEX);
        due("the 169th", () -> many.play(168, 0), 1);
        due("leads to", () -> spellAll(many, 1), "f(c,c)");
    }

    private static void playedStates() {
        sentence("Promise 12: how many terms the state has then, none too");
        RuleArena x = arena(ROLES + "I(0).L(a,0).L(b,0).N(1):T(0).N(2):T(0).N(f(3)):T(0).");
        due("three", () -> x.play(0, 0), 3);
        due("none", () -> x.play(0, 0), 0);
        due("none again", () -> x.play(0, 0), 0);
        due("the empty state", () -> spellAll(x, 1), "");
        due("many(1)", () -> x.many(1), 0);
        sentence("Terms, JOINT: D(player 0, m) and D(player 1, n), in the order of roles");
        RuleArena y = arena("R(z).R(c).L(z,0).L(c,1).N(f(U,V)):D(U,V).N(x):D(z,1).N(y):D(c,0).");
        due("two", () -> y.play(0, 0), 2);
        due("they", () -> spellAll(y, 1), "f(c,1) f(z,0)");
        sentence("Terms, JOINT: what follows from those T and D is BEYOND, so the move is");
        String facts = ROLES + "I(0).L(a,0).L(a,1).L(b,0).w(U,V,W):D(a,1),k(U),k(V),k(W)." + things(6);
        RuleArena z = arena(facts);
        idleDue(z, "play(1, 0)", () -> z.play(1, 0), ILLEGAL_STATE);
        due("play(0, 0)", () -> z.play(0, 0), 0);
        sentence("Promise 12: when it throws, nothing is changed, nor is the audit");
        RuleArena audited = arena(facts);
        audited.audit();
        put(audited, "p.");
        idleDue(audited, "play(1, 0)", () -> audited.play(1, 0), ILLEGAL_STATE);
        idleDue(audited, "play(2, 0)", () -> audited.play(2, 0), NO_INDEX);
        due("the sheet", audited::load, 1);
        sentence("Promise 12: the audit stays behind a move");
        RuleArena nim = arena(NIM);
        due("audit", nim::audit, 0);
        due("play", () -> nim.play(0, 0), 2);
        due("its states", () -> nim.many(2), 8);
    }

    private static void restarting() {
        sentence("Promise 13: false (refused) without rules");
        RuleArena none = new RuleArena();
        idleDue(none, "restart()", none::restart, false);
        put(none, "p");
        due("a load that throws", none::load, ILLEGAL_TEXT);
        due("restart()", none::restart, false);
        due("its fault stays", () -> none.fault(0), 1);
        put(none, "p.q");
        due("restart()", none::restart, false);
        due("the sheet stays", () -> none.write('.'), true);
        due("the sheet stays", none::load, 2);
        due("restart() with rules", none::restart, true);
        sentence("Promise 13: the state is the first one again (the audit stays)");
        RuleArena x = arena(NIM);
        String first = told(x);
        due("restart() of the first state", x::restart, true);
        due("all stays", () -> told(x), first);
        x.play(0, 0);
        due("restart()", x::restart, true);
        due("all is as it was", () -> told(x), first);
        due("no audit is made", () -> x.many(2), 0);
        x.play(0, 0);
        x.play(0, 0);
        due("at an end", x::over, 1);
        x.audit();
        due("restart()", x::restart, true);
        due("the audit stays", () -> x.many(2), 8);
        due("the state", () -> spellAll(x, 1), "4 a");
        due("over()", x::over, 0);
    }

    private static void auditDue(String text, int outcome, int states) {
        RuleArena x = arena(text);
        String before = toldOfState(x);
        due("audit of " + text, x::audit, outcome);
        due("states of " + text, () -> x.many(2), states);
        due("the audit leaves all else", () -> toldOfState(x), before);
        due("another audit", x::audit, outcome);
        due("states of another audit", () -> x.many(2), states);
    }

    private static void notJustTwoRoles() {
        sentence("Terms, AUDIT: 1 there are not just two roles");
        auditDue("p.", 1, 1);
        auditDue("R(a).E.", 1, 1);
        auditDue("R(a).R(a).E.", 1, 1);
        auditDue("R(a).R(b).R(c).E.", 1, 1);
        auditDue("R(a).R(b).R(c).L(a,0).L(b,0).", 1, 1);
        auditDue("R(a).R(b).R(b).E.G(a,8).G(b,0).", 0, 1);
        sentence("Promise 14: IllegalStateException without rules");
        RuleArena none = new RuleArena();
        idleDue(none, "audit()", none::audit, ILLEGAL_STATE);
        due("load", none::load, ILLEGAL_TEXT);
        idleDue(none, "audit()", none::audit, ILLEGAL_STATE);
    }

    private static void faultsOfEnds() {
        sentence("Terms, AUDIT: 4 it is an end and a player has no goal");
        auditDue(ROLES + "E.", 4, 1);
        auditDue(ROLES + "E.G(a,8).", 4, 1);
        auditDue(ROLES + "E.G(b,8).", 4, 1);
        auditDue(ROLES + "E.G(a,8).G(b,9).", 4, 1);
        auditDue(ROLES + "E.G(a,9).G(b,0).", 4, 1);
        auditDue(ROLES + "E.G(a,8).G(b,0).G(b,1).", 4, 1);
        auditDue(ROLES + "E.G(a,8).G(a,7).G(b,0).", 4, 1);
        sentence("Terms, AUDIT: 5 it is an end and the goals are not 8 together");
        for (int mine = 0; mine <= 8; mine++) {
            auditDue(ROLES + "E.G(a," + mine + ").G(b," + (8 - mine) + ").", 0, 1);
            if (mine < 8) {
                auditDue(ROLES + "E.G(a," + mine + ").G(b," + (7 - mine) + ").", 5, 1);
                auditDue(ROLES + "E.G(a," + (mine + 1) + ").G(b," + (8 - mine) + ").", 5, 1);
            }
        }
        auditDue(ROLES + "E.G(a,0).G(b,0).", 5, 1);
        auditDue(ROLES + "E.G(a,8).G(b,8).", 5, 1);
        sentence("Terms, AUDIT: goals are asked at an end alone");
        auditDue(ROLES + "I(0).L(a,0).L(b,0).N(1).E:T(1).G(a,3):T(1).G(b,5):T(1).", 0, 2);
        auditDue(ROLES + "I(0).L(a,0).L(b,0).N(1).E:T(1).G(a,3).G(b,5):T(1).G(b,8):T(0).", 0, 2);
    }

    private static void faultsOfOthers() {
        sentence("Terms, AUDIT: 2 it is no end, and a player has no legal move");
        auditDue(ROLES, 2, 1);
        auditDue(ROLES + "L(a,0).", 2, 1);
        auditDue(ROLES + "L(b,0).", 2, 1);
        auditDue(ROLES + "L(a,0).L(a,1).", 2, 1);
        auditDue(ROLES + "L(b,0).L(b,1).", 2, 1);
        auditDue(ROLES + "L(a,0).L(b,0).", 6, 1);
        sentence("Terms, AUDIT: 3 it is no end, and both have more than one");
        auditDue(ROLES + "L(a,0).L(a,1).L(b,0).L(b,1).", 3, 1);
        auditDue(ROLES + "L(a,0).L(a,1).L(b,0).L(b,1).L(b,2).", 3, 1);
        auditDue(ROLES + "L(a,0).L(a,1).L(b,0).", 6, 1);
        auditDue(ROLES + "L(a,0).L(b,0).L(b,1).", 6, 1);
        sentence("Terms, AUDIT: moves are asked if it is no end alone");
        String sound = "E.G(a,8).G(b,0).";
        auditDue(ROLES + sound, 0, 1);
        auditDue(ROLES + sound + "L(a,0).", 0, 1);
        auditDue(ROLES + sound + "L(a,0).L(a,1).L(b,0).L(b,1).", 0, 1);
        sentence("Terms, AUDIT: joint moves are gone through if it is no end alone");
        auditDue(ROLES + sound + "I(0).L(a,0).L(b,0).N(1).", 0, 1);
        auditDue(ROLES + sound + "I(0).L(a,0).L(b,0).N(f(U,V)):k(U),k(V)." + things(5), 0, 1);
    }

    private static void inTheirOrder() {
        sentence("Terms, AUDIT: states are looked at as they came up, joint moves in the order of player 0's");
        auditDue(FORK + "E:T(2).", 2, 3);
        auditDue(FORK + "E:T(1).", 4, 3);
        sentence("Terms, AUDIT: joint moves in the order of player 1's");
        auditDue(FORK_OF_1 + "E:T(2).", 2, 3);
        auditDue(FORK_OF_1 + "E:T(1).", 4, 3);
        sentence("Terms, AUDIT: a state that did not come up before comes behind the others");
        auditDue(FORK + "L(a,3):T(1).E:T(3).", 2, 4);
        auditDue(FORK + "L(a,3):T(1).E:T(2).", 4, 4);
        sentence("Terms, AUDIT: all joint moves of a state are gone through before the next is looked at");
        auditDue(FORK + "N(f(U,V)):D(a,2),k(U),k(V)." + things(5), 7, 2);
        auditDue(FORK + "N(f(U,V)):D(a,1),k(U),k(V)." + things(5), 7, 1);
        auditDue(FORK + "N(f(U,V)):D(a,2),k(U),k(V)." + things(4), 2, 3);
        sentence("Terms, AUDIT: 7 what follows from those T and D is BEYOND");
        auditDue(FORK + "w(U,V,W):D(a,2),k(U),k(V),k(W)." + things(6), 7, 2);
        auditDue(FORK + "w(U,V,W):D(a,1),k(U),k(V),k(W)." + things(6), 7, 1);
        auditDue(FORK + "w(U,V,W):D(a,2),k(U),k(V),k(W)." + things(5), 2, 3);
        sentence("Terms, AUDIT: 7 what follows in it is BEYOND, asked when that is looked at");
        auditDue(FORK + SIX_CUBED.replace("%", "1"), 7, 3);
        auditDue(FORK + SIX_CUBED.replace("%", "2"), 2, 3);
        sentence("Terms, AUDIT: 7 comes ahead of 4, 5, 2 and 3");
        auditDue(FORK + "E:T(1)." + SIX_CUBED.replace("%", "1"), 7, 3);
        auditDue(FORK + "E:T(1).G(a,8).G(b,8)." + SIX_CUBED.replace("%", "1"), 7, 3);
        auditDue(FORK + "L(a,3):T(1).L(a,4):T(1).L(b,m):T(1)." + SIX_CUBED.replace("%", "1"), 7, 3);
        auditDue(FORK + "L(a,3):T(1).L(a,4):T(1).L(b,m):T(1).", 3, 3);
    }

    private static void the61stState() {
        sentence("Terms, AUDIT: 7 the state to which it leads would be the 61st");
        auditDue(ONE_BY_ONE + "E:T(f(5,9)).", 0, 60);
        auditDue(ONE_BY_ONE + "E:T(f(6,0)).", 7, 60);
        auditDue(ONE_BY_ONE + "E:T(f(5,8)).", 0, 59);
        String sets = ROLES + "L(a,U):k(U),~T(U).L(b,i).N(U):T(U).N(U):D(a,U).l:k(U),~T(U).E:~l.G(a,8).G(b,0).";
        auditDue(sets + things(5), 0, 32);
        auditDue(sets + things(6), 7, 60);
        sentence("Terms, AUDIT: a state that came up before is not the 61st");
        String skip = ROLES + "I(f(0,0)).L(a,n).L(a,m).L(b,n).G(a,3).G(b,5)." + LINE
                + "N(f(U,W)):D(a,n),T(f(U,V)),s(V,W).N(f(W,0)):D(a,n),T(f(U,9)),s(U,W).";
        auditDue(skip + "N(f(5,9)):D(a,m).E:T(f(5,9)).", 0, 60);
        auditDue(skip + "N(f(6,0)):D(a,m).E:T(f(6,0)).", 7, 60);
        auditDue(skip + "N(f(0,0)):D(a,m).E:T(f(5,9)).", 6, 60);
        sentence("Terms, AUDIT: a fault of the 60th state is found");
        auditDue(ONE_BY_ONE.replace("G(a,3).", "") + "E:T(f(5,9)).", 4, 60);
        auditDue(ONE_BY_ONE.replace("G(a,3).", "G(a,4).") + "E:T(f(5,9)).", 5, 60);
        sentence("Terms, AUDIT: the 61st comes ahead of what the states that are left have");
        auditDue(sets.replace("G(b,0).", "") + things(5), 4, 32);
        auditDue(sets.replace("G(b,0).", "") + things(6), 7, 60);
    }

    private static void circles() {
        sentence("Terms, AUDIT: 6 a state leads to itself by one joint move");
        auditDue(ROLES + "L(a,0).L(b,0).", 6, 1);
        auditDue(ROLES + "I(0).L(a,0).L(b,0).N(0).", 6, 1);
        auditDue(ROLES + "I(0).L(a,0).L(b,0).N(1).", 6, 2);
        sentence("Terms, AUDIT: 6 by more joint moves");
        auditDue(ROLES + "I(0).L(a,0).L(b,0).N(1):T(0).N(0):T(1).", 6, 2);
        auditDue(ROLES + "I(0).L(a,0).L(b,0).N(1):T(0).N(2):T(1).N(1):T(2).", 6, 3);
        String ring = ROLES + "I(f(0,0)).L(U,n):R(U)." + LINE + "t(0,1).t(1,2).t(2,3).t(3,4).t(4,5).t(5,0)."
                + "N(f(U,W)):T(f(U,V)),s(V,W).N(f(W,0)):T(f(U,9)),t(U,W).";
        auditDue(ring, 6, 60);
        sentence("Terms, AUDIT: 6 a circle beside an end");
        auditDue(FORK + "E:T(1).G(a,8).G(b,0).L(a,0):T(2).", 6, 3);
        auditDue(FORK + "E:T(2).G(a,8).G(b,0).L(a,1):T(1).", 6, 3);
        auditDue(FORK + "E:T(3).G(a,8).G(b,0).L(a,3):T(1).L(a,3):T(2).L(a,0):T(0).", 6, 4);
        sentence("Terms, AUDIT: two ways to one state are no circle");
        auditDue(FORK + "E:T(3).G(a,8).G(b,0).L(a,3):T(1).L(a,3):T(2).", 0, 4);
        auditDue(FORK + "E:T(2).G(a,8).G(b,0).L(a,2):T(1).", 0, 3);
        sentence("Terms, AUDIT: states are the same if their terms are");
        auditDue(ROLES + "I(0).L(a,1).L(a,2).L(a,3).L(b,n).N(1):D(a,1).N(2):D(a,2).N(8):D(a,2).N(9):D(a,2).N(1):D(a,3).E:~T(0).G(a,8).G(b,0).", 0, 3);
        auditDue(ROLES + "I(0).L(a,1).L(a,2).L(a,3).L(b,n).N(1):D(a,1).N(2):D(a,1).N(1):D(a,2).N(2):D(a,3).E:~T(0).G(a,8).G(b,0).", 0, 4);
        auditDue(ROLES + "I(0).L(a,1).L(a,2).L(b,n).N(f(U,V)):k(U),j(V).E:~T(0).G(a,8).G(b,0)." + things(4) + things('j', 6), 0, 2);
        sentence("Terms, AUDIT: 6 when no state is left, so behind all others");
        auditDue(FORK + "L(a,0):T(0).E:T(1).E:T(2).G(a,8).G(b,8).", 5, 3);
        auditDue(FORK + "L(a,0):T(0).E:T(1).E:T(2).G(a,8).", 4, 3);
        auditDue(FORK + "L(a,0):T(0).", 2, 3);
        auditDue(FORK + "L(a,1):T(1)." + SIX_CUBED.replace("%", "2"), 7, 3);
        auditDue(FORK + "L(a,0):T(0).E:T(1).E:T(2).G(a,8).G(b,0).", 6, 3);
    }

    private static void statesThatCameUp() {
        sentence("Promise 6: states that came up in the latest audit of these rules, 0 before");
        RuleArena x = arena(NIM);
        due("before", () -> x.many(2), 0);
        x.play(0, 0);
        due("a move is no audit", () -> x.many(2), 0);
        sentence("Terms, AUDIT: at first the first state, not the one that is played");
        due("audit", x::audit, 0);
        due("8 states", () -> x.many(2), 8);
        due("the state stays", () -> spellAll(x, 1), "2 b");
        sentence("Promise 6: also an audit that was made for worth() or best()");
        RuleArena forWorth = arena(NIM);
        due("worth()", forWorth::worth, 8);
        due("its states", () -> forWorth.many(2), 8);
        RuleArena forBest = arena(NIM);
        due("best()", forBest::best, 256);
        due("its states", () -> forBest.many(2), 8);
        sentence("Promise 6: also one that is over early");
        RuleArena early = arena(FORK);
        due("worth()", early::worth, UNSUPPORTED);
        due("its states", () -> early.many(2), 3);
        RuleArena other = arena(FORK);
        due("best()", other::best, UNSUPPORTED);
        due("its states", () -> other.many(2), 3);
        sentence("Promise 6: of these rules, so 0 behind a load()");
        loadDue(early, "R(a).", 1);
        due("no audit", () -> early.many(2), 0);
        due("audit", early::audit, 1);
        due("over with 1", () -> early.many(2), 1);
    }

    private static void refusedSearches() {
        sentence("Promises 15 and 16: IllegalStateException without rules");
        RuleArena none = new RuleArena();
        idleDue(none, "worth()", none::worth, ILLEGAL_STATE);
        idleDue(none, "best()", none::best, ILLEGAL_STATE);
        String[] texts = {"R(a).E.G(a,8).", ROLES, ROLES + "L(a,0).L(a,1).L(b,0).L(b,1).", ROLES + "E.", ROLES + "E.G(a,8).G(b,8).",
            ROLES + "L(a,0).L(b,0).", ROLES + "L(a,0).L(b,0).N(f(U,V)):k(U),k(V)." + things(5)};
        for (int k = 0; k < texts.length; k++) {
            sentence("Promises 15 and 16: UnsupportedOperationException if the audit does not give 0");
            RuleArena x = arena(texts[k]);
            int outcome = k + 1;
            due("worth() of " + texts[k], x::worth, UNSUPPORTED);
            idleDue(x, "best() of " + texts[k], x::best, UNSUPPORTED);
            idleDue(x, "worth() of " + texts[k], x::worth, UNSUPPORTED);
            due("audit of " + texts[k], x::audit, outcome);
            RuleArena y = arena(texts[k]);
            due("best() at first", y::best, UNSUPPORTED);
        }
        sentence("Promise 16: UnsupportedOperationException comes ahead of NoSuchElementException");
        due("an end that is not sound", () -> arena(ROLES + "E.").best(), UNSUPPORTED);
        sentence("Promise 16: NoSuchElementException if it is an end");
        RuleArena end = arena(ROLES + "I(0).L(a,0).L(b,0).N(1).E:T(1).G(a,8).G(b,0).");
        due("best() ahead of it", end::best, 0);
        due("to the end", () -> end.play(0, 0), 1);
        idleDue(end, "best() at the end", end::best, NO_ELEMENT);
        idleDue(end, "worth() at the end", end::worth, 8);
        due("the first state is an end", () -> arena(ROLES + "E.G(a,8).G(b,0).").best(), NO_ELEMENT);
    }

    private static void searchDue(String text, int worth, Object best) {
        RuleArena x = arena(text);
        due("worth of " + text, x::worth, worth);
        due("best of " + text, x::best, best);
        RuleArena y = arena(text);
        due("best at first of " + text, y::best, best);
        idleDue(y, "worth then of " + text, y::worth, worth);
        idleDue(y, "best again of " + text, y::best, best);
    }

    /** One chooses among ends of these worths; the other one has one move. */
    private static String choice(int player, String worths) {
        StringBuilder out = new StringBuilder(ROLES + "I(i).").append(player == 0 ? "L(b,n).N(U):D(a,U)." : "L(a,n).N(U):D(b,U).");
        for (char c : worths.toCharArray()) {
            out.append(player == 0 ? "L(a," : "L(b,").append(c).append(").w(").append(c).append(',').append((char) ('8' - c + '0')).append(").");
        }
        return out + ENDS;
    }

    private static void worthOfChoices() {
        sentence("Terms, WORTH: of an end the goal of player 0");
        for (int goal = 0; goal <= 8; goal++) {
            searchDue(ROLES + "E.G(a," + goal + ").G(b," + (8 - goal) + ").", goal, NO_ELEMENT);
            searchDue("R(z).R(y).E.G(y," + goal + ").G(z," + (8 - goal) + ").", goal, NO_ELEMENT);
        }
        sentence("Terms, WORTH: the greatest if player 1 has one legal move; BEST: the first to that worth");
        searchDue(choice(0, "3"), 3, 0);
        searchDue(choice(0, "08"), 8, 256);
        searchDue(choice(0, "80"), 8, 256);
        searchDue(choice(0, "374"), 7, 512);
        searchDue(choice(0, "01345678"), 8, 1792);
        sentence("Terms, WORTH: the least if player 1 has more; BEST: the first to that worth");
        searchDue(choice(1, "3"), 3, 0);
        searchDue(choice(1, "08"), 0, 0);
        searchDue(choice(1, "374"), 3, 0);
        String turned = ROLES + "I(i).L(a,n).L(b,0).L(b,1).L(b,2).E:T(U),v(U).v(0).v(1).v(2).N(U):D(b,U).G(a,7):T(0).G(a,2):T(1).G(a,2):T(2)."
                + "G(b,1):T(0).G(b,6):T(1).G(b,6):T(2).";
        searchDue(turned, 2, 1);
        sentence("Terms, BEST: the first one, in their order");
        searchDue(turned.replace("L(a,n).", "L(b,n).").replace("L(b,0)", "L(a,0)").replace("L(b,1)", "L(a,1)").replace("L(b,2)", "L(a,2)")
                .replace("D(b,U)", "D(a,U)").replace("G(a,7)", "G(a,1)").replace("G(b,1):T(0)", "G(b,7):T(0)"), 2, 256);
        sentence("Terms, BEST: of two moves to one state the first one");
        searchDue(ROLES + "I(i).L(a,1).L(a,2).L(a,3).L(b,n).N(0):D(a,1).N(5):D(a,2).N(5):D(a,3).w(0,8).w(5,3)." + ENDS, 5, 256);
        searchDue(ROLES + "I(i).L(b,1).L(b,2).L(b,3).L(a,n).N(8):D(b,1).N(5):D(b,2).N(5):D(b,3).w(8,0).w(5,3)." + ENDS, 5, 1);
    }

    private static void worthOfDeepGames() {
        sentence("Terms, WORTH: of a state by those to which joint moves lead");
        String deep = ROLES + "I(i).L(a,p):T(i).L(a,q):T(i).L(a,n):~T(i).L(b,n):T(i).L(b,3):T(p).L(b,5):T(p).L(b,0):T(q).L(b,8):T(q)."
                + "N(U):D(V,U),U#n.w(3,5).w(5,3).w(0,8).w(8,0)." + ENDS;
        searchDue(deep, 3, 0);
        RuleArena x = arena(deep);
        due("the second move", () -> x.play(1, 0), 1);
        sentence("Promise 15: the worth of the state, not of the first one");
        due("worth there", x::worth, 0);
        due("best there", x::best, 0);
        due("to its other end", () -> x.play(0, 1), 1);
        due("worth at the end", x::worth, 8);
        x.restart();
        due("worth of the first state", x::worth, 3);
        sentence("Terms, WORTH: over 60 states, one behind the other");
        searchDue(ONE_BY_ONE + "E:T(f(5,9)).", 3, 0);
        sentence("Promise 16: a of play() times 256, and b");
        String many = "N(1).N(2):D(%,f(b,b)).E:T(1).G(a,3):T(2).G(a,5):~T(2).G(b,5):T(2).G(b,3):~T(2)." + things(12);
        searchDue(ROLES + "I(0).L(a,n).L(b,f(U,V)):k(U),k(V)." + many.replace("%", "b"), 3, 143);
        searchDue(ROLES + "I(0).L(b,n).L(a,f(U,V)):k(U),k(V)." + many.replace("%", "a").replace("G(a,3)", "G(a,6)").replace("G(b,5)", "G(b,2)"),
                6, 143 * 256);
        sentence("Promise 15: an audit is made for it, if none was made of these rules");
        RuleArena again = arena(NIM);
        due("worth", again::worth, 8);
        loadDue(again, ROLES + "E.G(a,2).G(b,6).", 5);
        due("worth by other rules", again::worth, 2);
        loadDue(again, ROLES + "E.G(a,2).G(b,5).", 5);
        due("worth by rules that are not sound", again::worth, UNSUPPORTED);
        loadDue(again, NIM, 18);
        due("best by the first rules again", again::best, 256);
    }

    private static void calls512() {
        sentence("An object is used for at most 512 calls");
        RuleArena loads = new RuleArena();
        for (int k = 0; k < 256; k++) {
            loadDue(loads, k % 2 == 0 ? "p.q:p." : "p.", k % 2 == 0 ? 2 : 1);
        }
        RuleArena audits = arena(NIM);
        for (int k = (NIM.length() + 7) / 8 + 1; k < 512; k++) {
            due("audit by call " + (k + 1), audits::audit, 0);
        }
        RuleArena plays = arena(NIM);
        for (int k = (NIM.length() + 7) / 8 + 1; k + 4 <= 512; k += 4) {
            due("play by call " + (k + 1), () -> plays.play(1, 0), 2);
            due("worth by call " + (k + 2), plays::worth, 8);
            due("best by call " + (k + 3), plays::best, 0);
            due("restart by call " + (k + 4), plays::restart, true);
        }
        RuleArena writes = new RuleArena();
        for (int k = 0; k < 255; k++) {
            due("write by call " + (2 * k + 1), () -> writes.write(eight("p.q(")), true);
            writes.wipe();
        }
        loadDue(writes, "p.", 1);
    }

    public static void main(String[] args) {
        playInItsOrder();
        noSuchMoves();
        playedStates();
        restarting();
        notJustTwoRoles();
        faultsOfEnds();
        faultsOfOthers();
        inTheirOrder();
        the61stState();
        circles();
        statesThatCameUp();
        refusedSearches();
        worthOfChoices();
        worthOfDeepGames();
        calls512();
        finish();
    }
}
