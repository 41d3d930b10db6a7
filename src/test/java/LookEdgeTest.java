/** Boundaries of promises 1, 3, 9, 10 and 11, sentence by sentence. */
public final class LookEdgeTest {
    private static final int[] FAR = {Integer.MIN_VALUE, -100, -2, -1, Integer.MAX_VALUE};

    public static void main(String[] args) {
        isNew();
        isNewInEachCall();
        tellsNoOtherTotal();
        tellsTotalsAtTheirEnds();
        tellsNoOtherPredicate();
        tellsNamesAndLetters();
        tellsNoOtherWhat();
        tellsNoOtherTuple();
        keepsAllWithAFault();
        replacesAllWithoutAFault();
        hasEachFactOnce();
        Checks.finish();
    }

    /** "No PROGRAM, no FACTS, no predicates; there is a MODEL, which has nothing (it counts not as made)". */
    private static void isNew() {
        RuleHouse house = new RuleHouse();
        int[] due = {0, 0, 0, 0, 0, 1, 0, 0, 0};
        for (int what = 0; what < due.length; what++) {
            Checks.same("total " + what, house.total(what), due[what]);
        }
        for (int what = 0; what <= 5; what++) {
            Checks.same("predicate 0, " + what, house.predicate(0, what), RuleHouse.NONE);
        }
        Checks.same("letter 0", house.predicate(0, 100), RuleHouse.NONE);
        Checks.same("tuple", Checks.tuple(house, 0, 0, 0), "none");
        Checks.same("round", Checks.round(house, 0, 0), "none");
        Checks.same("answer", Checks.answer(house, 0, 0), "none");
        Checks.same("fault", Checks.faultOf(house), "0@0");
        Checks.same("solve", Checks.solve(house), "0");
        Checks.same("it was not made", house.total(8), 0);
        Checks.same("the tape is empty", Checks.ask(house, ""), "1@0");
    }

    private static void isNewInEachCall() {
        Checks.same("fact", Checks.fact(new RuleHouse(), "p(1).", 1), "2@0");
        Checks.same("fact goes", Checks.fact(new RuleHouse(), "p(1).", 0), "2@0");
        Checks.same("fact of nothing", Checks.fact(new RuleHouse(), "", 1), "1@0");
        Checks.same("ask", Checks.ask(new RuleHouse(), "p(X)?"), "2@0");
        Checks.same("ask without ATOMS", Checks.ask(new RuleHouse(), "1=1?"), "1");
        Checks.same("program of nothing", Checks.program(new RuleHouse(), ""), "0");
        // A FAULT leaves the MODEL of a new object.
        RuleHouse house = new RuleHouse();
        Checks.same("a FAULT", Checks.program(house, "p"), "1@1");
        Checks.same("the MODEL stays", Checks.totals(house), "0 0 0 0 0 1 0 0 0");
        Checks.same("solve", Checks.solve(house), "0");
        Checks.same("40 MODELS are left", house.total(8), 0);
        // Objects have nothing in common.
        RuleHouse other = Edges.settled();
        Checks.same("this one", Checks.totals(house), "0 0 0 0 0 1 0 0 0");
        Checks.same("the other one", Checks.totals(other), "2 2 4 1 5 1 7 1 1");
    }

    /** "NONE for another what". */
    private static void tellsNoOtherTotal() {
        RuleHouse house = Edges.settled();
        for (int what : FAR) {
            Checks.same("total " + what, house.total(what), RuleHouse.NONE);
        }
        Checks.same("total 9", house.total(9), RuleHouse.NONE);
        Checks.same("total 10", house.total(10), RuleHouse.NONE);
        Checks.same("total 8", house.total(8), 1);
        Checks.same("total 0", house.total(0), 2);
    }

    /** What each total tells at the least and at the most. */
    private static void tellsTotalsAtTheirEnds() {
        RuleHouse house = Checks.solved("a(1).b(1).c(1).d(1).e(1).f(1).g(1).h(1).i(1).j(1).k(1).l(1).m(1).n(1).o(1)."
                + "p(X):-a(X),b(X),c(X)." + "p(X):-a(X).".repeat(29));
        Checks.same("16 predicates, 30 RULES", Checks.totals(house), "0 0 16 30 15 1 16 1 1");
        Checks.same("RULES of the last one", house.predicate(15, 2), 30);
        Checks.same("TUPLE of the last one", Checks.tuple(house, 15, 0, 0) + Checks.round(house, 15, 0), "11");
        Checks.same("one more", Checks.tuple(house, 16, 0, 0) + Checks.round(house, 16, 0), "nonenone");
        Checks.same("one more predicate", house.predicate(16, 4), RuleHouse.NONE);
        Checks.ask(house, "A=1,B=A,C=A,D=A,a(E),a(F)?");
        Checks.same("six VARIABLES", house.total(0) + " " + house.total(1), "6 1");
        Checks.ask(house, "a(A),B=A,C=A,D=A,E=A,F=A?");
        Checks.same("answers", Checks.toldAnswers(house), "1,1,1,1,1,1");
        // "6: 0 without a MODEL": none as yet, and TOO MANY.
        Checks.program(house, "n(0).n(Y):-n(X),Y is X+1.");
        Checks.same("none as yet", house.total(5) + " " + house.total(6), "0 0");
        Checks.solve(house);
        Checks.same("TOO MANY", house.total(5) + " " + house.total(6), "2 0");
        Checks.program(house, "n(0).n(Y):-n(X),Y is X+1,Y<200.");
        Checks.solve(house);
        Checks.same("200", house.total(5) + " " + house.total(6), "1 200");
        // "7: strata of the PROGRAM (1 more than the highest; 0 without predicates)".
        Checks.same("one stratum", house.total(7), 1);
        Checks.program(house, "p(1):-!q(1).");
        Checks.same("two strata", house.total(7), 2);
        Checks.program(house, "");
        Checks.same("none", house.total(7), 0);
    }

    /** "NONE if there is none such". */
    private static void tellsNoOtherPredicate() {
        RuleHouse house = Edges.settled();
        int[] none = {-1, 4, 5, 15, 16, 17, Integer.MIN_VALUE, Integer.MAX_VALUE};
        int[] all = {0, 1, 2, 3, 4, 5, 100, 101, 6, -1};
        for (int p : none) {
            for (int what : all) {
                Checks.same("predicate " + p + " " + what, house.predicate(p, what), RuleHouse.NONE);
            }
        }
        Checks.same("the first one", Checks.nameOf(house, 0), "p");
        Checks.same("the last one", Checks.nameOf(house, 3), "r");
        // Those of an earlier PROGRAM are gone.
        Checks.program(house, "a(1).");
        Checks.same("of an earlier one", house.predicate(1, 0), RuleHouse.NONE);
    }

    /** "5: letters of its NAME, 100 + i: letter i of it. NONE if there is none such (no such letter)". */
    private static void tellsNamesAndLetters() {
        String[] names = {"a", "z9", "abc", "a1b2", "zzzzz", "abcdef"};
        StringBuilder text = new StringBuilder();
        for (String name : names) {
            text.append(name).append("(1).");
        }
        RuleHouse house = Checks.house(text.toString());
        for (int p = 0; p < names.length; p++) {
            Checks.same("letters of " + names[p], house.predicate(p, 5), names[p].length());
            for (int i = 0; i < 10; i++) {
                int due = i < names[p].length() ? names[p].charAt(i) : RuleHouse.NONE;
                Checks.same("letter " + i + " of " + names[p], house.predicate(p, 100 + i), due);
            }
            Checks.same("letter -1 of " + names[p], house.predicate(p, 99), RuleHouse.NONE);
        }
    }

    /** ".. or for another what". */
    private static void tellsNoOtherWhat() {
        RuleHouse house = Edges.settled();
        for (int what : FAR) {
            Checks.same("what " + what, house.predicate(0, what), RuleHouse.NONE);
        }
        for (int what = 6; what < 100; what++) {
            Checks.same("what " + what, house.predicate(0, what), RuleHouse.NONE);
        }
        for (int what = 101; what < 120; what++) {
            Checks.same("what " + what, house.predicate(0, what), RuleHouse.NONE);
        }
        Checks.same("0 to 5", house.predicate(0, 0) + " " + house.predicate(0, 1) + " " + house.predicate(0, 2) + " "
                + house.predicate(0, 3) + " " + house.predicate(0, 4) + " " + house.predicate(0, 5), "1 0 0 2 2 1");
        Checks.same("100", house.predicate(0, 100), 'p' + 0);
        // "4: its TUPLES in the MODEL (0 without one)".
        Checks.fact(house, "p(1).", 0);
        Checks.same("FACTS now, TUPLES", house.predicate(0, 3) + " " + house.predicate(0, 4), "1 0");
    }

    /** "NoSuchElementException: there is none such". */
    private static void tellsNoOtherTuple() {
        RuleHouse house = Checks.house("p(1).p(2).q(1,2).t(1,2,3,4).e(X):-p(X),X>2.");
        Checks.same("no MODEL", Checks.tuple(house, 0, 0, 0), "none");
        Checks.solve(house);
        Checks.same("p", Checks.tuple(house, 0, 0, 0) + Checks.tuple(house, 0, 1, 0), "12");
        Checks.same("p has two", Checks.tuple(house, 0, 2, 0), "none");
        Checks.same("p has one ARGUMENT", Checks.tuple(house, 0, 0, 1), "none");
        Checks.same("q", Checks.tuple(house, 1, 0, 0) + Checks.tuple(house, 1, 0, 1), "12");
        Checks.same("q has one", Checks.tuple(house, 1, 1, 0), "none");
        Checks.same("q has two ARGUMENTS", Checks.tuple(house, 1, 0, 2), "none");
        Checks.same("t", Checks.tuple(house, 2, 0, 0) + Checks.tuple(house, 2, 0, 3), "14");
        Checks.same("t has four ARGUMENTS", Checks.tuple(house, 2, 0, 4), "none");
        Checks.same("e has none", Checks.tuple(house, 3, 0, 0), "none");
        Checks.same("no predicate 4", Checks.tuple(house, 4, 0, 0), "none");
        for (int one : FAR) {
            Checks.same("far p " + one, Checks.tuple(house, one, 0, 0), "none");
            Checks.same("far i " + one, Checks.tuple(house, 0, one, 0), "none");
            Checks.same("far k " + one, Checks.tuple(house, 0, 0, one), "none");
            Checks.same("all far " + one, Checks.tuple(house, one, one, one), "none");
        }
        Checks.program(house, "n(0).n(Y):-n(X),Y is X+1,Y<200.");
        Checks.solve(house);
        Checks.same("the 200th", Checks.tuple(house, 0, 199, 0), "199");
        Checks.same("a 201st", Checks.tuple(house, 0, 200, 0), "none");
        Checks.program(house, "");
        Checks.same("none again", Checks.tuple(house, 0, 0, 0), "none");
    }

    /** "IllegalArgumentException: it has a FAULT (all but fault() stays as it is)". */
    private static void keepsAllWithAFault() {
        String[] wrong = {"1@0", "~", "2@5", "p(1).p(1,2).", "3@2", "p(X):-q(Y).", "4@6", "p(1):-!p(1).",
            "1@18", "a(1).b(X):-a(X).c("};
        for (int i = 0; i < wrong.length; i += 2) {
            // With a MODEL, without one, and TOO MANY.
            RuleHouse house = Edges.settled();
            String before = Checks.everything(house);
            Checks.same("program", Checks.program(house, wrong[i + 1]), wrong[i]);
            Edges.stays("with a MODEL " + wrong[i + 1], house, before);
            Checks.fact(house, "p(9).", 1);
            before = Checks.everything(house);
            Checks.same("program", Checks.program(house, wrong[i + 1]), wrong[i]);
            Edges.stays("without a MODEL " + wrong[i + 1], house, before);
            Checks.same("the FACT is still there", Checks.fact(house, "p(9).", 1), "false");
            house = Checks.solved("n(0).n(Y):-n(X),Y is X+1.");
            before = Checks.everything(house);
            Checks.same("program", Checks.program(house, wrong[i + 1]), wrong[i]);
            Edges.stays("TOO MANY " + wrong[i + 1], house, before);
        }
    }

    /** "its FACTS .. are the only ones; there is no MODEL till solve()". */
    private static void replacesAllWithoutAFault() {
        RuleHouse house = Edges.settled();
        Checks.fact(house, "p(9).", 1);
        Checks.same("program", Checks.program(house, "p(5)."), "0");
        Checks.same("totals", Checks.totals(house), "2 2 1 0 1 0 0 1 1");
        Checks.same("no MODEL", Checks.ask(house, "p(5)?"), "state");
        Checks.solve(house);
        Checks.same("its FACTS alone", Checks.tuples(house, 0), "5:0");
        Checks.same("no other predicate", Checks.ask(house, "q(1,2)?"), "2@0");
        // Another number of ARGUMENTS than before is no FAULT.
        Checks.same("program", Checks.program(house, "p(5,6)."), "0");
        Checks.solve(house);
        Checks.same("its ARGUMENTS", house.predicate(0, 0) + " " + Checks.tuples(house, 0), "2 5,6:0");
    }

    /** "its FACTS (each once)". */
    private static void hasEachFactOnce() {
        RuleHouse house = Checks.house("p(1).p(1).p(01).p(-1).p(a).p(a).q(1).p(1).");
        Checks.same("FACTS", house.total(4) + " " + house.predicate(0, 3) + " " + house.predicate(1, 3), "4 3 1");
        Checks.same("TUPLES", Checks.solve(house), "4");
        Checks.program(house, "p(1).".repeat(120));
        Checks.same("one of 120", house.total(4) + Checks.solve(house), "11");
    }
}
