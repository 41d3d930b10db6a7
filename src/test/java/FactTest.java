/** Promise 4. */
public final class FactTest {
    public static void main(String[] args) {
        comesAndGoes();
        tellsFaults();
        holdsTwoHundred();
        findsThemBehindGaps();
        Checks.finish();
    }

    private static void comesAndGoes() {
        RuleHouse house = Checks.solved("p(1).q(X):-p(X).");
        Checks.ask(house, "q(X)?");
        Checks.same("is there", Checks.fact(house, "p(1).", 1), "false");
        Checks.same("is not there", Checks.fact(house, "p(2).", 0), "false");
        Checks.same("nothing changed", Checks.totals(house), "1 1 2 1 1 1 2 1 1");
        Checks.same("comes", Checks.fact(house, " p ( a ) . ", 1), "true");
        Checks.same("no MODEL, answers stay", Checks.totals(house), "1 1 2 1 2 0 0 1 1");
        Checks.same("solve", Checks.solve(house), "4");
        Checks.same("what follows", Checks.tuples(house, 1), "1:1 a:1");
        Checks.same("of a predicate with RULES", Checks.fact(house, "q(-5).", 1), "true");
        Checks.same("solve", Checks.solve(house), "5");
        Checks.same("its round is 0", Checks.tuples(house, 1), "-5:0 1:1 a:1");
        Checks.same("a TUPLE of a RULE is no FACT", Checks.fact(house, "q(1).", 0), "false");
        Checks.same("it may be one, too", Checks.fact(house, "q(1).", 1), "true");
        Checks.same("solve", Checks.solve(house), "5");
        Checks.same("now it is of round 0", Checks.tuples(house, 1), "-5:0 1:0 a:1");
        Checks.same("goes", Checks.fact(house, "p(1).", 0), "true");
        Checks.same("no MODEL", house.total(5), 0);
        Checks.same("goes once", Checks.fact(house, "p(1).", 0), "false");
        Checks.same("solve", Checks.solve(house), "4");
        Checks.same("what is left", Checks.tuples(house, 0), "a:0");
        Checks.same("the latest one goes", Checks.fact(house, "q(1).", 0), "true");
        Checks.same("and is gone", Checks.fact(house, "q(1).", 0), "false");
        Checks.same("and comes again", Checks.fact(house, "q(1).", 1), "true");
        Checks.same("and is there", Checks.fact(house, "q(1).", 1), "false");
        Checks.same("predicates stay", house.total(2), 2);
        Checks.same("FACTS by predicates", house.predicate(0, 3) + " " + house.predicate(1, 3), "1 2");
    }

    private static void tellsFaults() {
        RuleHouse house = Checks.solved("p(1,2).");
        Checks.same("another how", Checks.fact(house, "p(1,~", 2), "0@0");
        Checks.same("another how, behind a FAULT", Checks.fact(house, "p(1,~", 0), "1@4");
        Checks.same("another how sets FAULT 0", Checks.fact(house, "p(3,4).", -1), "0@0");
        Checks.same("the tape is empty", Checks.fact(house, "", 1), "1@0");
        Checks.same("blanks alone", Checks.fact(house, "  ", 1), "1@2");
        Checks.same("ends too early", Checks.fact(house, "p(1,2) ", 1), "1@7");
        Checks.same("something behind it", Checks.fact(house, "p(1,2). p(1,2).", 1), "1@8");
        Checks.same("a VARIABLE", Checks.fact(house, "p(1,X).", 1), "1@4");
        Checks.same("a VARIABLE goes ahead of what is behind", Checks.fact(house, "p(X,Y). ~", 1), "1@2");
        Checks.same("a TOTAL", Checks.fact(house, "p(1,count(X)).", 1), "1@4");
        Checks.same("_", Checks.fact(house, "p(1,_).", 1), "1@4");
        Checks.same("a RULE", Checks.fact(house, "p(1,2) :- p(2,1).", 1), "1@7");
        Checks.same("a QUESTION", Checks.fact(house, "p(1,2)?", 1), "1@6");
        Checks.same("another number of ARGUMENTS", Checks.fact(house, " p(1).", 1), "2@1");
        Checks.same("no such predicate", Checks.fact(house, "q(1).", 0), "2@0");
        Checks.same("FAULT 1 goes ahead of 2", Checks.fact(house, "q(1)", 1), "1@4");
        Checks.same("five ARGUMENTS", Checks.fact(house, "p(1,2,3,4,5).", 1), "1@10");
        Checks.same("nothing changed", Checks.totals(house), "0 0 1 0 1 1 1 1 1");
        Checks.same("a good one", Checks.fact(house, "p(1,2).", 1), "false");
        Checks.same("FAULT 0", Checks.faultOf(house), "0@0");
    }

    private static void holdsTwoHundred() {
        RuleHouse house = Checks.house("q(1)." + Edges.facts("p", 0, 80));
        for (int i = 81; i < 199; i++) {
            Checks.same("FACT " + i, Checks.fact(house, "p(" + i + ").", 1), "true");
        }
        Checks.same("200", house.total(4), 200);
        Checks.same("200 TUPLES are not TOO MANY", Checks.solve(house), "200");
        Checks.fact(house, "~", 1);
        Checks.same("a 201st", Checks.fact(house, "p(a).", 1), "state");
        Checks.same("that is no FAULT", Checks.faultOf(house), "0@0");
        Checks.same("the MODEL stays", Checks.totals(house), "0 0 2 0 200 1 200 1 1");
        Checks.same("a wrong one is told first", Checks.fact(house, "r(a).", 1), "2@0");
        Checks.same("one that is there", Checks.fact(house, "p(7).", 1), "false");
        Checks.same("one that is not there", Checks.fact(house, "p(a).", 0), "false");
        Checks.same("one goes", Checks.fact(house, "p(7).", 0), "true");
        Checks.same("one comes", Checks.fact(house, "p(a).", 1), "true");
        Checks.same("solve", Checks.solve(house), "200");
        Checks.same("last in order", Checks.tuple(house, 1, 198, 0), "a");
        Checks.same("the gap", Checks.tuple(house, 1, 6, 0) + Checks.tuple(house, 1, 7, 0), "68");
    }

    private static void findsThemBehindGaps() {
        RuleHouse house = Checks.house(Edges.facts("p", 1, 90));
        for (int i = 3; i <= 90; i += 3) {
            Checks.same("goes " + i, Checks.fact(house, "p(" + i + ").", 0), true);
        }
        Checks.same("60 are left", house.total(4), 60);
        for (int i = 1; i <= 90; i++) {
            Checks.same("comes " + i, Checks.fact(house, "p(" + i + ").", 1), i % 3 == 0);
        }
        Checks.same("90 again", house.total(4), 90);
    }
}
