/** Boundaries of CLAUSE, FACT, TOTAL and PROGRAM, sentence by sentence. */
public final class ClauseEdgeTest {
    private static final String[] WORDS = {"count", "sum", "least", "most"};
    private static final String THIRTY = "a(X):-b(X).".repeat(30);
    private static final String SIXTEEN = "a(1).b(1).c(1).d(1).e(1).f(1).g(1).h(1).i(1).j(1).k(1).l(1)."
            + "m(1).n(1).o(1).p(1).";
    private static final String FIFTEEN = SIXTEEN.substring(0, 75);

    public static void main(String[] args) {
        endsClauses();
        mayHaveOneTotal();
        hasATotalOnlyWithABody();
        hasNoVariablesWithoutABody();
        mayHaveNoClauses();
        hasThirtyRules();
        meetsA31stRuleAtItsSign();
        hasSixteenPredicates();
        meetsA17thPredicateAtItsName();
        Checks.finish();
    }

    /** "CLAUSE: HEAD .   or HEAD :- BODY ." */
    private static void endsClauses() {
        Edges.programTaken(0, "p(1).");
        Edges.programTaken(1, "p(1):-q(1).");
        Edges.programTaken(1, "p(1).q(1):-p(1).p(2).");
        Edges.programRefused(1, "p(1)^,p(2).");
        Edges.programRefused(1, "p(1)^=1.");
        Edges.programRefused(1, "p(1) ^p(2).");
        Edges.programRefused(1, "p(1).^.");
        Edges.programRefused(1, "^.");
        Edges.programRefused(1, "^:-p(1).");
        Edges.programRefused(1, "^1=1.");
        Edges.programRefused(1, "^X.");
        Edges.programRefused(1, "^P(1).");
        Edges.programRefused(1, "p(1):-q(1)^:-r(1).");
        Edges.programRefused(1, "p(1):-q(1) ^p(2).");
        Edges.programRefused(1, "p(1):-q(1),^.p(2).");
    }

    /** "with a BODY one of them may be a TOTAL: count ( VARIABLE ), sum, least, most likewise". */
    private static void mayHaveOneTotal() {
        for (String word : WORDS) {
            String total = word + "(X)";
            Edges.programTaken(1, "p(" + total + "):-s(X).");
            Edges.programTaken(1, "p(" + total + ",2,3,4):-s(X).");
            Edges.programTaken(1, "p(1," + total + ",3,4):-s(X).");
            Edges.programTaken(1, "p(1,2," + total + ",4):-s(X).");
            Edges.programTaken(1, "p(1,2,3," + total + "):-s(X).");
            Edges.programTaken(1, "p(X," + total + "):-s(X).");
            Edges.programRefused(1, "p(" + total + ",^count(X)):-s(X).");
            Edges.programRefused(1, "p(count(X),^" + total + "):-s(X).");
            Edges.programRefused(1, "p(1," + total + ",2,^sum(Y)):-s(X,Y).");
            Edges.programRefused(1, "p(" + total + ",^most");
            Edges.programRefused(1, "p(" + word + "^):-s(X).");
            Edges.programRefused(1, "p(" + word + " ^X):-s(X).");
            Edges.programRefused(1, "p(" + word + "(^)):-s(X).");
            Edges.programRefused(1, "p(" + word + "(^1)):-s(1).");
            Edges.programRefused(1, "p(" + word + "(^-1)):-s(1).");
            Edges.programRefused(1, "p(" + word + "(^a)):-s(1).");
            Edges.programRefused(1, "p(" + word + "(^" + word + "(X))):-s(X).");
            Edges.programRefused(1, "p(" + word + "(X^,Y)):-s(X,Y).");
            Edges.programRefused(1, "p(" + word + "(X^:-s(X).");
            Edges.programRefused(1, "p(-^" + total + "):-s(X).");
            Edges.programRefused(1, "p(1):-s(^" + total + ").");
            Edges.programRefused(1, "p(1):-!s(^" + total + ").");
            Edges.programRefused(1, "p(1):-s(X),1=^" + total + ".");
        }
        // One in each HEAD.
        Edges.programTaken(2, "p(count(X)):-s(X).p(sum(X)):-s(X).");
    }

    /** FAULT 1: "a FACT's VARIABLE or TOTAL"; ".. met at its . (ahead of what is behind that)". */
    private static void hasATotalOnlyWithABody() {
        for (String word : WORDS) {
            String total = word + "(X)";
            Edges.programRefused(1, "p(^" + total + ").");
            Edges.programRefused(1, "p(1,2,3,^" + total + ").");
            Edges.programRefused(1, "p(^" + total + ",Y,Z).");
            Edges.programRefused(1, "p(^Y," + total + ").");
            Edges.programRefused(1, "p(^X," + total + ").");
            Edges.programRefused(1, "p(^" + total + ").~");
            Edges.programRefused(1, "p(" + total + ")^~");
            Edges.programRefused(1, "p(" + total + ")^");
            Edges.programRefused(1, "p(" + total + ",^sum(X)).");
            Edges.programRefused(1, "p(" + total + ",2,3,4,^5).");
            Edges.factRefused(1, "p(^" + total + ").");
            Edges.factRefused(1, "p(^" + total + ").~");
            Edges.factRefused(1, "p(" + total + ")^~");
        }
    }

    /** "A CLAUSE without a BODY has no VARIABLES: it is a FACT; others are RULES". */
    private static void hasNoVariablesWithoutABody() {
        Edges.programRefused(1, "p(^X).");
        Edges.programRefused(1, "p(1,2,3,^X).");
        Edges.programRefused(1, "p(1,^X,Y,Z).");
        Edges.programRefused(1, "p(^X,X).");
        Edges.programRefused(1, "p(1).q(2).p(^X).");
        Edges.programTaken(1, "p(X):-q(X).");
        // It is met at its . only.
        Edges.programRefused(1, "p(^X).~");
        Edges.programRefused(1, "p(^X).p(Y).");
        Edges.programRefused(1, "p(X)^~.");
        Edges.programRefused(1, "p(X)^");
        Edges.programRefused(1, "p(X,1^;).");
        Edges.programRefused(1, "p(X^.");
        Edges.programRefused(1, "p(X,^_).");
        Edges.programRefused(1, "p(X,2,3,4,^5).");
        // FAULT 1 goes ahead of 2 and 3, be it behind them.
        Edges.programRefused(1, "p(1).p(1,2).q(X):-p(Y).p(^Z).");
        Edges.factRefused(1, "p(^X).");
        Edges.factRefused(1, "q(1,^X).");
        Edges.factRefused(1, "p(^X).p(1).");
        Edges.factRefused(1, "p(X)^p(1).");
        Edges.factRefused(1, "p(^X,1).");
        Edges.factRefused(1, "z(^X).");
        // A text for fact() has no BODY.
        Edges.factRefused(1, "p(1)^:-p(2).");
        Edges.factRefused(1, "p(1)^:-");
    }

    /** "A PROGRAM: CLAUSES (perhaps none)". */
    private static void mayHaveNoClauses() {
        String[] none = {"", " ", " ".repeat(599), " ".repeat(600)};
        for (String text : none) {
            Edges.programTaken(0, text);
            RuleHouse house = Edges.settled();
            Checks.program(house, text);
            Checks.same("nothing is there", Checks.totals(house), "2 2 0 0 0 0 0 0 1");
            Checks.same("no predicate", house.predicate(0, 0), RuleHouse.NONE);
            Checks.same("its MODEL", Checks.solve(house), "0");
            Checks.same("made", Checks.totals(house), "2 2 0 0 0 1 0 0 2");
        }
    }

    /** "at most 30 RULES"; FAULT 1: "31st RULE .. its first TOKEN". */
    private static void hasThirtyRules() {
        Edges.programTaken(29, THIRTY.substring(11));
        Edges.programTaken(30, THIRTY);
        Edges.programRefused(1, THIRTY + "^a(1):-b(1).");
        Edges.programRefused(1, THIRTY + "   ^c(1):-b(1).");
        Edges.programRefused(1, THIRTY + "^a(count(X)):-b(X).");
        // FACTS are no RULES, be they between them or behind.
        Edges.programTaken(30, "b(1)." + THIRTY + "b(2).a(3).c(1).");
        Edges.programRefused(1, "b(1)." + THIRTY + "b(2).^a(1):-b(1).a(3).");
        RuleHouse house = Checks.solved(THIRTY.substring(11) + "c(X):-a(X).b(7).");
        Checks.same("the 30th works", Checks.tuples(house, 2), "7:2");
        // All 30 are forgotten by the next text.
        Checks.same("30 again", Checks.program(house, THIRTY), "30");
        Checks.same("31 again", Checks.program(house, THIRTY + "a(1):-b(1)."), "1@330");
        Checks.same("1", Checks.program(house, "a(1):-b(1)."), "1");
    }

    /** "a 31st RULE is met at its :- (behind what is wrong in its HEAD)". */
    private static void meetsA31stRuleAtItsSign() {
        Edges.programRefused(1, THIRTY + "^a(1):-~");
        Edges.programRefused(1, THIRTY + "^a(1):-");
        Edges.programRefused(1, THIRTY + "^a(X):-b(Y),!a(X),_=1.");
        Edges.programRefused(1, THIRTY + "a(1)^");
        Edges.programRefused(1, THIRTY + "a(1)^~");
        Edges.programRefused(1, THIRTY + "a(1)^: -b(1).");
        Edges.programRefused(1, THIRTY + "a(^_):-b(1).");
        Edges.programRefused(1, THIRTY + "a(1,2,3,4,^5):-b(1).");
        Edges.programRefused(1, THIRTY + "a(count(X),^sum(X)):-b(X).");
        Edges.programRefused(1, THIRTY + "a(^X).a(1):-b(1).");
        Edges.programRefused(1, THIRTY + "^a(1,2):-b(1).");
        Edges.programRefused(1, "a(1).a(1,2)." + THIRTY + "^a(1):-b(1).");
    }

    /** "16 predicates (by their NAMES)"; FAULT 1: "a 17th predicate". */
    private static void hasSixteenPredicates() {
        Edges.programTaken(0, FIFTEEN);
        Edges.programTaken(0, SIXTEEN);
        Edges.programTaken(0, SIXTEEN + "a(2).p(2).");
        Edges.programTaken(1, FIFTEEN + "a(1):-q(1).");
        Edges.programTaken(1, FIFTEEN + "a(1):-!q(1).");
        Edges.programTaken(1, FIFTEEN + "q(1):-a(1).");
        Edges.programTaken(1, SIXTEEN + "a(1):-p(1),!o(1).");
        Edges.programRefused(1, SIXTEEN + "^q(1).");
        Edges.programRefused(1, SIXTEEN + "^q(1):-a(1).");
        Edges.programRefused(1, SIXTEEN + "a(1):-^q(1).");
        Edges.programRefused(1, SIXTEEN + "a(1):-b(1), ^q(1).");
        Edges.programRefused(1, SIXTEEN + "a(1):-!^q(1).");
        Edges.programRefused(1, SIXTEEN + "a(1):-b(1),! ^q(1).");
        Edges.programRefused(1, FIFTEEN + "q(1):-^r(1).");
        Edges.programRefused(1, FIFTEEN + "q(1):-!^r(1).");
        // SYMBOLS are no predicates.
        Edges.programTaken(1, SIXTEEN + "a(q).b(X):-c(r),!d(s),X=u,v<w,z!=y.");
        RuleHouse house = Checks.solved(SIXTEEN);
        Checks.same("16", house.total(2) + " " + house.total(6), "16 16");
        Checks.same("the last one", Checks.nameOf(house, 15) + Checks.tuples(house, 15), "p1:0");
        Checks.same("a 17th is none", house.predicate(16, 0), RuleHouse.NONE);
        // In fact() and ask() it is one that is not there.
        Checks.same("fact", Checks.fact(house, "q(1).", 1), "2@0");
        Checks.same("ask", Checks.ask(house, "a(1),q(1)?"), "2@5");
        Checks.same("without (", Checks.fact(house, "q.", 1), "1@1");
        Checks.same("behind !", Checks.ask(house, "!q?"), "1@2");
        Checks.same("16 again", Checks.program(house, SIXTEEN), "0");
    }

    /** "its NAME, also if no ( stands behind it; in a LITERAL without ! it is an ATOM only with the (". */
    private static void meetsA17thPredicateAtItsName() {
        Edges.programRefused(1, SIXTEEN + "^q.");
        Edges.programRefused(1, SIXTEEN + "^q");
        Edges.programRefused(1, SIXTEEN + "^q~");
        Edges.programRefused(1, SIXTEEN + "^q:-a(1).");
        Edges.programRefused(1, SIXTEEN + "^q(");
        Edges.programRefused(1, SIXTEEN + "a^.");
        Edges.programRefused(1, SIXTEEN + "a(1):-!^q.");
        Edges.programRefused(1, SIXTEEN + "a(1):-!^q=1.");
        Edges.programRefused(1, SIXTEEN + "a(1):-!b^.");
        Edges.programRefused(1, SIXTEEN + "a(1):-^q(~");
        Edges.programRefused(1, SIXTEEN + "a(1):-^q (1).");
        Edges.programRefused(1, SIXTEEN + "a(1):-q^.");
        Edges.programRefused(1, SIXTEEN + "a(1):-q^,b(1).");
        Edges.programRefused(1, SIXTEEN + "a(1):-q^");
        Edges.programTaken(1, SIXTEEN + "a(1):-q=1.");
        Edges.programTaken(1, SIXTEEN + "a(1):-1=q.");
        Edges.programRefused(1, FIFTEEN + "q^.");
        Edges.programRefused(1, FIFTEEN + "a(1):-!q^.");
    }
}
