/** Boundaries of what HANGS on what, of FAULT 4 and of the STRATUM, sentence by sentence. */
public final class HangEdgeTest {
    public static void main(String[] args) {
        refusesItsOwnAbsence();
        refusesATotalOfItsOwn();
        hangsOnAndOn();
        tellsTheFirst();
        hangsOnlyByBodies();
        forgetsEarlierTexts();
        hasTheLeastStrata();
        raisesByNotAndTotalOnly();
        endsWithSixteenStrata();
        Checks.finish();
    }

    /** "the first ! .. in a RULE, if the predicate of that LITERAL .. is the HEAD's, or hangs on it". */
    private static void refusesItsOwnAbsence() {
        Edges.programRefused(4, "p(1):-^!p(1).");
        Edges.programRefused(4, "p(1):-^!p(2).");
        Edges.programRefused(4, "p(X):-q(X), ^! p(X).");
        Edges.programRefused(4, "p(X):-q(X),^!r(X).r(X):-p(X).");
        Edges.programRefused(4, "p(X):-q(X),^!r(X).r(X):-q(X),!p(X).");
        Edges.programRefused(4, "r(X):-p(X).p(X):-q(X),^!r(X).");
        Edges.programTaken(2, "p(X):-q(X),!r(X).r(X):-q(X).");
        Edges.programTaken(1, "p(X):-q(X),!r(X).");
        Edges.programTaken(2, "p(X):-q(X),!r(X).r(X):-r(X).");
        // Without ! it may hang on itself.
        Edges.programTaken(1, "p(X):-p(X).");
        Edges.programTaken(2, "p(X):-q(X).q(X):-p(X).");
        // The ! of another predicate's RULE is no hindrance.
        Edges.programTaken(3, "p(X):-q(X),!r(X).p(X):-p(X).r(X):-q(X),r(X).");
        Edges.programTaken(2, "p(X):-p(X),q(X),!r(X).q(X):-p(X).");
        Edges.programRefused(4, "p(X):-p(X),q(X),^!r(X).q(X):-p(X).r(X):-q(X).");
    }

    /** "of a TOTAL: of any ATOM of its BODY, with ! or without". */
    private static void refusesATotalOfItsOwn() {
        String[] words = {"count", "sum", "least", "most"};
        for (String word : words) {
            String total = word + "(X)";
            Edges.programRefused(4, "p(^" + total + "):-p(X).");
            Edges.programRefused(4, "p(1,^" + total + "):-q(X),p(1,X).");
            Edges.programRefused(4, "p(^" + total + "):-q(X),!p(X).");
            Edges.programRefused(4, "p(^" + total + "):-q(X),r(X),s(X).s(X):-p(X).");
            Edges.programRefused(4, "p(^" + total + "):-q(X),!r(X).r(X):-p(X).");
            Edges.programTaken(1, "p(" + total + "):-q(X),!r(X).");
            Edges.programTaken(2, "p(" + total + "):-q(X),r(X).r(X):-q(X).");
            Edges.programTaken(1, "p(" + total + "):-X=1.");
            Edges.programTaken(2, "p(" + total + "):-q(X).p(X):-p(X).");
        }
    }

    /** "A predicate HANGS on those of the ATOMS in the BODIES of its RULES, on what these hang on, and so on". */
    private static void hangsOnAndOn() {
        String chain = "b(1):-c(1).c(1):-d(1).d(1):-e(1).e(1):-f(1).f(1):-g(1).g(1):-h(1).h(1):-i(1).i(1):-j(1)."
                + "j(1):-k(1).k(1):-l(1).l(1):-m(1).m(1):-n(1).n(1):-o(1).o(1):-p(1).";
        Edges.programTaken(15, chain + "a(1):-!b(1).");
        Edges.programRefused(4, chain + "p(1):-a(1).a(1):-^!b(1).");
        Edges.programRefused(4, "a(1):-^!b(1)." + chain + "p(1):-a(1).");
        Edges.programRefused(4, "a(1):-^!b(1)." + chain + "p(1):-!a(1).");
        Edges.programRefused(4, "p(1):-a(1)." + chain + "a(^count(X)):-b(X).");
        Edges.programTaken(16, chain + "p(1):-p(2).p(1):-o(1).");
        // Against the order of the text.
        String back = "o(1):-p(1).n(1):-o(1).m(1):-n(1).l(1):-m(1).k(1):-l(1).j(1):-k(1).i(1):-j(1).h(1):-i(1)."
                + "g(1):-h(1).f(1):-g(1).e(1):-f(1).d(1):-e(1).c(1):-d(1).b(1):-c(1).";
        Edges.programRefused(4, back + "p(1):-a(1).a(1):-^!b(1).");
        Edges.programTaken(15, back + "a(1):-!b(1).");
        // By a second RULE, and by an ATOM with !.
        Edges.programRefused(4, "p(1):-^!r(1).r(1):-q(1).r(1):-s(1).s(1):-t(1).s(1):-p(1).");
        Edges.programRefused(4, "p(1):-^!r(1).r(1):-q(1),!s(1).s(1):-p(1).");
        Edges.programRefused(4, "p(1):-^!r(1).r(count(X)):-s(X).s(1):-p(1).");
    }

    private static void tellsTheFirst() {
        Edges.programRefused(4, "p(X):-q(X),!r(X),^!p(X),!p(X).");
        Edges.programRefused(4, "p(X):-q(X),^!p(X).s(X):-q(X),!s(X).");
        Edges.programRefused(4, "p(X):-q(X).s(X):-q(X),^!s(X).p(X):-q(X),!p(X).");
        Edges.programRefused(4, "p(^count(X)):-q(X),!p(X).");
        Edges.programRefused(4, "p(X):-q(X),^!p(X).s(count(X)):-s(X).");
        Edges.programRefused(4, "s(^count(X)):-s(X).p(X):-q(X),!p(X).");
        Edges.programRefused(4, "s(count(X)):-q(X).p(X):-q(X),^!p(X).");
        // Both ends of a ring are wrong: the first of them in the text is told.
        Edges.programRefused(4, "p(1):-^!q(1).q(1):-!p(1).");
        Edges.programRefused(4, "p(1):-q(1).q(1):-^!p(1).");
    }

    /** FACTS and SYMBOLS hang on nothing. */
    private static void hangsOnlyByBodies() {
        Edges.programTaken(1, "r(p).p(X):-q(X),!r(X).");
        Edges.programTaken(2, "p(X):-q(X),!r(X).r(X):-s(X),X=p.");
        // A QUESTION hangs on nothing, and no predicate on it.
        Edges.questionTaken("1: ", "p(1),!p(3)?");
        Edges.questionTaken("1: ", "r(1),!r(3)?");
        // Relations and is neither, whichever place the HEAD's predicate has.
        for (int k = 0; k <= 14; k++) {
            StringBuilder others = new StringBuilder();
            for (int i = 0; i < k; i++) {
                others.append((char) ('a' + i)).append("(1).");
            }
            Edges.programTaken(3, others + "y(1):-!z(1).z(X):-X=1,X<2,Y is X+1,Z is Y-1,W is Z*2,V is W/1."
                    + "z(X):-X is 5%3,X!=1,X>=1.");
        }
    }

    private static void forgetsEarlierTexts() {
        RuleHouse house = new RuleHouse();
        Checks.same("hanging", Checks.program(house, "p(X):-q(X),!r(X).r(X):-p(X)."), "4@11");
        Checks.same("not so", Checks.program(house, "p(X):-q(X),!r(X)."), "1");
        Checks.same("two strata", house.total(7), 2);
        Checks.same("a second RULE", Checks.program(house, "p(X):-q(X).r(X):-q(X),!r(X)."), "4@22");
        Checks.same("one RULE", Checks.program(house, "p(X):-q(X),!r(X)."), "1");
        Checks.same("another one", Checks.program(house, ""), "0");
        Checks.same("FACTS alone", Checks.program(house, "p(1).q(1).r(1)."), "0");
        Checks.same("one stratum", house.total(7) + " " + house.predicate(0, 1), "1 0");
    }

    private static String strata(String text) {
        RuleHouse house = Checks.house(text);
        StringBuilder all = new StringBuilder(Checks.faultOf(house).equals("0@0") ? "" : "FAULT ");
        for (int p = 0; p < house.total(2); p++) {
            all.append(p == 0 ? "" : " ").append(house.predicate(p, 1));
        }
        return all + " of " + house.total(7);
    }

    private static void strata(String text, String due) {
        Checks.same("strata of " + text, strata(text), due);
    }

    /** "STRATUM of a predicate: the least numbers from 0 on such that it is not below ..". */
    private static void hasTheLeastStrata() {
        Checks.same("without predicates", strata(""), " of 0");
        strata("a(1).", "0 of 1");
        strata("a(1).b(2).", "0 0 of 1");
        strata("a(X):-a(X).", "0 of 1");
        strata("a(X):-b(X).b(X):-c(X).", "0 0 0 of 1");
        strata("a(X):-X=1.", "0 of 1");
        strata("a(X):-b(X).b(X):-a(X).b(X):-c(X),!d(X).", "1 1 0 0 of 2");
        strata("a(X):-b(X),!c(X).b(X):-d(X),!c(X).", "1 1 0 0 of 2");
        strata("a(X):-b(X),!c(X).c(X):-b(X),!d(X).", "2 0 1 0 of 3");
        // The highest one on which any RULE asks.
        strata("a(X):-b(X).a(X):-c(X).a(X):-d(X).c(1):-!b(1).d(1):-!c(1).", "2 0 1 2 of 3");
        strata("a(X):-d(X).a(X):-c(X).a(X):-b(X).c(1):-!b(1).d(1):-!c(1).", "2 2 1 0 of 3");
    }

    /** "and above it, if that is with !, or the RULE has a TOTAL". */
    private static void raisesByNotAndTotalOnly() {
        strata("a(1):-!b(1).", "1 0 of 2");
        strata("a(X):-b(X),!c(X),d(X).b(1):-!d(1).", "1 1 0 0 of 2");
        strata("a(X):-b(X),!c(X).c(1):-!d(1).b(1):-!d(1).", "2 1 1 0 of 3");
        strata("a(count(X)):-b(X).", "1 0 of 2");
        strata("a(count(X)):-b(X),c(X).c(1):-!b(1).", "2 0 1 of 3");
        strata("a(count(X)):-b(X),!c(X).c(1):-!b(1).", "2 0 1 of 3");
        strata("a(count(X)):-X=1.", "0 of 1");
        strata("a(sum(X)):-b(X).b(most(X)):-c(X).c(least(X)):-d(X).", "3 2 1 0 of 4");
        // Another RULE of the same predicate is raised with it.
        strata("a(X):-c(X).a(count(X)):-b(X).d(X):-a(X).", "1 0 0 1 of 2");
        strata("a(X):-c(X).a(1):-!b(1).d(count(X)):-a(X).", "1 0 0 2 of 3");
    }

    /** With 16 predicates there are at most 16 strata. */
    private static void endsWithSixteenStrata() {
        String down = "a(1):-!b(1).b(1):-!c(1).c(1):-!d(1).d(1):-!e(1).e(1):-!f(1).f(1):-!g(1).g(1):-!h(1)."
                + "h(1):-!i(1).i(1):-!j(1).j(1):-!k(1).k(1):-!l(1).l(1):-!m(1).m(1):-!n(1).n(1):-!o(1).o(1):-!p(1).";
        String due = "15 14 13 12 11 10 9 8 7 6 5 4 3 2 1 0 of 16";
        strata(down, due);
        RuleHouse house = Checks.solved(down);
        Checks.same("every other one holds", house.total(6), 8);
        Checks.same("the lowest one has nothing", Checks.tuples(house, 15) + Checks.tuples(house, 14), "1:1");
        Checks.same("the highest one", Checks.tuples(house, 0), "1:1");
        Checks.fact(house, "p(1).", 1);
        Checks.same("turned round", Checks.solve(house), "8");
        Checks.same("the highest one has nothing", Checks.tuples(house, 0) + Checks.tuples(house, 1), "1:1");
        strata("o(1):-!p(1).n(1):-!o(1).m(1):-!n(1).l(1):-!m(1).k(1):-!l(1).j(1):-!k(1).i(1):-!j(1).h(1):-!i(1)."
                + "g(1):-!h(1).f(1):-!g(1).e(1):-!f(1).d(1):-!e(1).c(1):-!d(1).b(1):-!c(1).a(1):-!b(1).",
                "1 0 2 3 4 5 6 7 8 9 10 11 12 13 14 15 of 16");
    }
}
