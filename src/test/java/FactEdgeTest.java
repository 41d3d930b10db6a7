/** Boundaries of promise 4, sentence by sentence. */
public final class FactEdgeTest {
    public static void main(String[] args) {
        comesOnce();
        goesOnce();
        isTheSameByValues();
        refusesAnotherHow();
        refusesAnotherHowFirst();
        refusesWhatIsNoFact();
        holdsTwoHundred();
        refusesA201st();
        comesInPlaceOfAnother();
        goesToTheLast();
        Checks.finish();
    }

    /** "it comes (how 1) .. and there is no MODEL then: true; false, changing nothing, if it was there". */
    private static void comesOnce() {
        RuleHouse house = Edges.settled();
        Checks.same("comes", Checks.fact(house, "p(b).", 1), "true");
        Checks.same("no MODEL", Checks.totals(house), "2 2 4 1 6 0 0 1 1");
        Checks.same("its FACTS", house.predicate(0, 3), 3);
        Checks.same("is there", Checks.fact(house, "p(b).", 1), "false");
        Checks.same("solve", Checks.solve(house), "9");
        String before = Checks.everything(house);
        Checks.same("is there", Checks.fact(house, "p(b).", 1), "false");
        Edges.stays("is there", house, before);
        Checks.same("one of the PROGRAM's is there", Checks.fact(house, "t(1,2,3,4).", 1), "false");
        Edges.stays("one of the PROGRAM's is there", house, before);
        // What a RULE gives is no FACT as yet.
        Checks.same("a TUPLE comes", Checks.fact(house, "r(b).", 1), "true");
        Checks.same("solve", Checks.solve(house), "9");
        Checks.same("of round 0 now", Checks.tuples(house, 3), "1:1 a:1 b:0");
    }

    /** "or goes (how 0), and there is no MODEL then: true; false, changing nothing, if it .. was not". */
    private static void goesOnce() {
        RuleHouse house = Edges.settled();
        String before = Checks.everything(house);
        Checks.same("is not there", Checks.fact(house, "p(b).", 0), "false");
        Edges.stays("is not there", house, before);
        Checks.same("a TUPLE of a RULE is no FACT", Checks.fact(house, "r(1).", 0), "false");
        Edges.stays("a TUPLE of a RULE is no FACT", house, before);
        Checks.same("goes", Checks.fact(house, "p(1).", 0), "true");
        Checks.same("no MODEL", Checks.totals(house), "2 2 4 1 4 0 0 1 1");
        Checks.same("is gone", Checks.fact(house, "p(1).", 0), "false");
        Checks.same("solve", Checks.solve(house), "5");
        Checks.same("what followed is gone", Checks.tuples(house, 3), "a:1");
    }

    private static void isTheSameByValues() {
        RuleHouse house = Checks.solved("p(0).p(7).p(a).q(1,2).q(2,1).");
        Checks.same("-0", Checks.fact(house, "p(-0).", 1), "false");
        Checks.same("00", Checks.fact(house, "p(00).", 1), "false");
        Checks.same("007", Checks.fact(house, " p ( 007 ) . ", 1), "false");
        Checks.same("the MODEL stays", house.total(5), 1);
        Checks.same("-7", Checks.fact(house, "p(-7).", 1), "true");
        Checks.same("aa", Checks.fact(house, "p(aa).", 1), "true");
        Checks.same("a0", Checks.fact(house, "p(a0).", 1), "true");
        Checks.same("(1,1)", Checks.fact(house, "q(1,1).", 1), "true");
        Checks.same("(1,1) goes", Checks.fact(house, "q(01,1).", 0), "true");
        Checks.same("FACTS", house.total(4), 8);
    }

    /** "another how (that first: FAULT 0, the tape is empty, too)". */
    private static void refusesAnotherHow() {
        int[] others = {-1, 2, 3, 10, 256, Integer.MIN_VALUE, Integer.MAX_VALUE};
        for (int how : others) {
            RuleHouse house = Edges.settled();
            String before = Checks.everything(house);
            Checks.same("a FAULT", Checks.ask(house, "p(1"), "1@3");
            Checks.same("comes " + how, Checks.fact(house, "p(b).", how), "0@0");
            Edges.stays("comes " + how, house, before);
            Checks.same("goes " + how, Checks.fact(house, "p(1).", how), "0@0");
            Edges.stays("goes " + how, house, before);
        }
    }

    private static void refusesAnotherHowFirst() {
        String[] wrong = {"", "~", "p(1", "p(1,2).", "z(1).", "p(X).", "p(1):-p(1).", "p(1)?"};
        RuleHouse house = Edges.settled();
        String before = Checks.everything(house);
        for (String text : wrong) {
            Checks.same("how 2 " + text, Checks.fact(house, text, 2), "0@0");
            Edges.tapeIsEmpty("how 2 " + text, house);
        }
        Edges.stays("how 2", house, before);
    }

    /** "IllegalArgumentException: it is no FACT, with a FAULT 1 or 2 (2 also: there is no such predicate)". */
    private static void refusesWhatIsNoFact() {
        Edges.factRefused(1, "^");
        Edges.factRefused(1, "  ^");
        Edges.factRefused(1, "^.");
        Edges.factRefused(1, "p^.");
        Edges.factRefused(1, "p(1)^");
        Edges.factRefused(1, "p(1)^?");
        Edges.factRefused(1, "p(1)^:-p(1).");
        Edges.factRefused(1, "p(X)^:-p(X).");
        Edges.factRefused(1, "p(1).^p(2).");
        Edges.factRefused(1, "p(1). ^.");
        Edges.factRefused(1, "p(^X).");
        Edges.factRefused(1, "p(^_).");
        Edges.factRefused(1, "p(^count(X)).");
        Edges.factRefused(1, "^P(1).");
        Edges.factRefused(1, "^1=1.");
        Edges.factRefused(2, "^p(1,2).");
        Edges.factRefused(2, "^q(1).");
        Edges.factRefused(2, "^s(1).");
        // It makes no predicate.
        RuleHouse house = Edges.settled();
        Checks.same("no such predicate", Checks.fact(house, "s(1).", 1), "2@0");
        Checks.same("nor now", Checks.fact(house, "s(1).", 1), "2@0");
        Checks.same("predicates", house.total(2), 4);
    }

    private static RuleHouse withFacts(int many) {
        RuleHouse house = Checks.house("q(1)." + Edges.facts("p", 1, 80));
        for (int i = 81; i < many; i++) {
            Checks.same("FACT " + i, Checks.fact(house, "p(" + i + ").", 1), "true");
        }
        Checks.same("FACTS", house.total(4), many);
        return house;
    }

    private static void holdsTwoHundred() {
        RuleHouse house = withFacts(199);
        Checks.same("the 200th", Checks.fact(house, "p(a).", 1), "true");
        Checks.same("FACTS", house.total(4) + " " + house.predicate(1, 3), "200 199");
        Checks.same("solve", Checks.solve(house), "200");
        Checks.same("the last one", Checks.tuple(house, 1, 198, 0), "a");
        Checks.same("the first one", Checks.tuple(house, 1, 0, 0), "1");
    }

    /** "IllegalStateException, with a good one: 200 FACTS are there, and it would come". */
    private static void refusesA201st() {
        RuleHouse house = withFacts(200);
        Checks.solve(house);
        Checks.same("a FAULT", Checks.ask(house, "p"), "1@1");
        Checks.same("the 201st", Checks.fact(house, "p(a).", 1), "state");
        Checks.same("no FAULT", Checks.faultOf(house), "0@0");
        Checks.same("the MODEL stays", Checks.totals(house), "0 0 2 0 200 1 200 1 1");
        Edges.tapeIsEmpty("the 201st", house);
        Checks.same("of another predicate", Checks.fact(house, "q(2).", 1), "state");
        Checks.same("one that is there", Checks.fact(house, "p(1).", 1), "false");
        Checks.same("one that is not there", Checks.fact(house, "p(a).", 0), "false");
        Checks.same("FAULT 1 goes ahead", Checks.fact(house, "p(X).", 1), "1@2");
        Checks.same("FAULT 2 goes ahead", Checks.fact(house, "p(a,b).", 1), "2@0");
        Checks.same("no such predicate goes ahead", Checks.fact(house, "s(1).", 1), "2@0");
        Checks.same("another how goes ahead", Checks.fact(house, "p(a).", 2), "0@0");
        Checks.same("nothing came", Checks.totals(house), "0 0 2 0 200 1 200 1 1");
        Checks.same("nor is it there", Checks.ask(house, "p(a)?"), "0");
    }

    private static void comesInPlaceOfAnother() {
        RuleHouse house = withFacts(200);
        Checks.same("the 201st", Checks.fact(house, "p(a).", 1), "state");
        Checks.same("one goes", Checks.fact(house, "p(1).", 0), "true");
        Checks.same("199", house.total(4), 199);
        Checks.same("one comes", Checks.fact(house, "p(a).", 1), "true");
        Checks.same("the 201st", Checks.fact(house, "p(1).", 1), "state");
        Checks.same("solve", Checks.solve(house), "200");
        Checks.same("first and last", Checks.tuple(house, 1, 0, 0) + Checks.tuple(house, 1, 198, 0), "2a");
        Checks.same("another PROGRAM has none of them", Checks.program(house, "p(1)."), "0");
        Checks.same("FACTS", house.total(4), 1);
        Checks.same("comes", Checks.fact(house, "p(2).", 1), "true");
    }

    /** All FACTS may go; the predicates stay. */
    private static void goesToTheLast() {
        RuleHouse house = Checks.house("p(1).p(2).q(X):-p(X).");
        Checks.same("goes", Checks.fact(house, "p(1).", 0), "true");
        Checks.same("the last one goes", Checks.fact(house, "p(2).", 0), "true");
        Checks.same("is gone", Checks.fact(house, "p(2).", 0), "false");
        Checks.same("predicates, RULES, FACTS", Checks.totals(house), "0 0 2 1 0 0 0 1 0");
        Checks.same("solve", Checks.solve(house), "0");
        Checks.same("there is a MODEL", Checks.totals(house), "0 0 2 1 0 1 0 1 1");
        Checks.same("comes again", Checks.fact(house, "p(2).", 1), "true");
        Checks.same("solve", Checks.solve(house), "2");
    }
}
