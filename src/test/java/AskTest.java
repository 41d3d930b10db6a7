/** Promise 7. */
public final class AskTest {
    public static void main(String[] args) {
        answersInOrder();
        tellsFaults();
        tellsStates();
        endsWithTwoHundred();
        endsWithFiveHundred();
        Checks.finish();
    }

    private static void answersInOrder() {
        RuleHouse house = Checks.solved("e(2,b). e(1,a). e(a,1). e(1,-5). e(b,b). e(ab,2). e(a1,2). "
                + "n(1). n(2). n(10). n(9). n(-3).");
        Checks.same("all", Checks.answers(house, "e(X,Y)?"), "7: 1,-5 1,a 2,b a,1 a1,2 ab,2 b,b");
        Checks.same("by the VARIABLE that is first", Checks.answers(house, "e(_,Y),e(X,Y)?"),
                "7: -5,1 1,a 2,a1 2,ab a,1 b,2 b,b");
        Checks.same("in the order of the text", Checks.answers(house, "Y=1,e(X,Y)?"), "1: 1,a");
        Checks.same("in a test first", Checks.answers(house, "!n(Y),e(X,Y)?"),
                "4: -5,1 a,1 b,2 b,b");
        Checks.same("numbers by what they are", Checks.answers(house, "n(X)?"), "5: -3 1 2 9 10");
        Checks.same("each once", Checks.answers(house, "e(X,_)?"), "6: 1 2 a a1 ab b");
        Checks.same("one VARIABLE twice", Checks.answers(house, "e(X,X)?"), "1: b");
        Checks.same("reckoned", Checks.answers(house, "n(X),Y is X*X,Y<50?"), "3: -3,9 1,1 2,4");
        Checks.same("a join", Checks.answers(house, "e(X,Y),e(Y,Z),X!=Z?"),
                "4: 2,b,b a,1,-5 a1,2,b ab,2,b");
        Checks.same("without VARIABLES", Checks.answers(house, "n(1)?"), "1: ");
        Checks.same("one without VALUES", Checks.totals(house), "0 1 2 0 12 1 12 1 1");
        Checks.same("it does not hold", Checks.answers(house, "n(3)?"), "0: ");
        Checks.same("none", Checks.totals(house), "0 0 2 0 12 1 12 1 1");
        Checks.same("anything", Checks.answers(house, "n(_)?"), "1: ");
        Checks.same("absent", Checks.answers(house, "!n(3),!e(_,7)?"), "1: ");
        Checks.same("absent with anything", Checks.answers(house, "n(X),!e(X,_)?"), "3: -3 9 10");
        Checks.same("no answers", Checks.answers(house, "n(X),X>10?"), "0: ");
        Checks.same("VARIABLES without answers", house.total(0), 1);
        Checks.same("not of a TOTAL, so _ may be", Checks.answers(house, "e(_,_),n(_),e(_,2)?"), "1: ");
        Checks.same("six LITERALS", Checks.answers(house, "A=1,B=2,C=3,D=4,e(b,E),F=E?"),
                "1: 1,2,3,4,b,b");
        Checks.same("eight VARIABLES",
                Checks.answers(house, "e(A,B),e(C,D),e(E,F),G is A+C,H is F-G,A<C?"),
                "8: 1,-5,2,b,1,-5,3,-8 1,-5,2,b,a,1,3,-2 1,-5,2,b,a1,2,3,-1 1,-5,2,b,ab,2,3,-1 "
                + "1,a,2,b,1,-5,3,-8 1,a,2,b,a,1,3,-2 1,a,2,b,a1,2,3,-1 1,a,2,b,ab,2,3,-1");
        Checks.same("wrapped", Checks.answers(house, "X is 999999999*9?"), "1: 410065399");
    }

    private static void tellsFaults() {
        RuleHouse house = Checks.solved("p(1). p(2). q(1,2).");
        Checks.answers(house, "p(X)?");
        Checks.same("FAULT 1", Checks.ask(house, "p(X)"), "1@4");
        Checks.same("the tape is empty", Checks.ask(house, ""), "1@0");
        Checks.same("FAULT 2", Checks.ask(house, "q(X)?"), "2@0");
        Checks.same("no such predicate", Checks.ask(house, "p(X),!z(X)?"), "2@6");
        Checks.same("FAULT 3", Checks.ask(house, "p(X),Y>X?"), "3@5");
        Checks.same("answers stay", Checks.totals(house), "1 2 2 0 3 1 3 1 1");
        Checks.same("a QUESTION makes no predicate", house.total(2), 2);
        Checks.same("a TOTAL is none", Checks.ask(house, "p(count(X))?"), "1@2");
        Checks.same("no FAULT 4", Checks.ask(house, "p(1),!p(3)?"), "1");
    }

    private static void tellsStates() {
        RuleHouse house = Checks.house("p(1). p(2).");
        Checks.same("no MODEL", Checks.ask(house, "p(X)?"), "state");
        Checks.same("that is no FAULT", Checks.faultOf(house), "0@0");
        Checks.same("a FAULT goes ahead", Checks.ask(house, "p(X,Y)?"), "2@0");
        Checks.same("the tape is empty", Checks.ask(house, ""), "1@0");
        Checks.solve(house);
        Checks.same("with a MODEL", Checks.answers(house, "p(X)?"), "2: 1 2");
        Checks.fact(house, "p(3).", 1);
        Checks.same("none again", Checks.ask(house, "p(3)?"), "state");
        Checks.same("what was answered before stays", Checks.answer(house, 1, 0), "2");
        Checks.same("totals", Checks.totals(house), "1 2 1 0 3 0 0 1 1");
        Checks.program(house, "p(X):-q(X). q(1).");
        Checks.same("a FAULT of the new PROGRAM's", Checks.ask(house, "r(1)?"), "2@0");
        Checks.same("what was answered before stays", Checks.answer(house, 1, 0), "2");
    }

    private static void endsWithTwoHundred() {
        StringBuilder facts = new StringBuilder();
        for (int i = 0; i < 20; i++) {
            facts.append("p(").append(i).append(").");
        }
        RuleHouse house = Checks.solved(facts.toString());
        Checks.answers(house, "p(X),X<2?");
        Checks.same("200", Checks.ask(house, "p(X),p(Y),Y<10?"), "200");
        Checks.same("the last one", Checks.answer(house, 199, 0) + " " + Checks.answer(house, 199, 1),
                "19 9");
        Checks.same("220", Checks.ask(house, "p(Z),p(Y),Y<11?"), "state");
        Checks.same("that is no FAULT", Checks.faultOf(house), "0@0");
        Checks.same("what was answered before stays", Checks.totals(house), "2 200 1 0 20 1 20 1 1");
        Checks.same("an answer stays", Checks.answer(house, 0, 0) + Checks.answer(house, 199, 1), "09");
        Checks.same("201 of pairs", Checks.ask(house, "p(X),p(Y),Z is X*20,W is Z+Y,W<=200?"), "state");
        Checks.same("200 of pairs", Checks.ask(house, "p(X),p(Y),Z is X*20,W is Z+Y,W<200?"), "200");
        Checks.same("many ways, one answer", Checks.ask(house, "p(_),p(_),p(_)?"), "1");
        Checks.same("many ways, few answers", Checks.answers(house, "p(_),p(_),p(X),X<3?"), "3: 0 1 2");
    }

    /** Beyond the 512 calls that are promised; the limit itself is told all the same. */
    private static void endsWithFiveHundred() {
        RuleHouse house = Checks.solved("p(1). p(2).");
        for (int i = 0; i < 499; i++) {
            Checks.same("QUESTION " + i, Checks.ask(house, "p(X)?"), "2");
        }
        Checks.ask(house, "p(X)");
        Checks.same("the 500th", Checks.ask(house, "p(1)?"), "1");
        Checks.same("the 501st", Checks.ask(house, "p(X)?"), "state");
        Checks.same("what was answered before stays", Checks.totals(house), "0 1 1 0 2 1 2 1 1");
        Checks.same("a FAULT goes ahead", Checks.ask(house, "p(X)"), "1@4");
    }
}
