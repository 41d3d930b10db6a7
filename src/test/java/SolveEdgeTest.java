/** Boundaries of TOO MANY and of promise 6, sentence by sentence. */
public final class SolveEdgeTest {
    private static final String UP = "n(0).n(Y):-n(X),Y is X+1,Y<";

    public static void main(String[] args) {
        endsWithTwoHundredInARound();
        endsWithTheTwoHundredthRound();
        endsWithTwoHundredFacts();
        endsWithTwoHundredInRoundZero();
        endsWithTwoHundredOfAllStrata();
        endsWithTwoHundredGroups();
        countsNoTupleTwice();
        isMadeOnlyIfThereIsNone();
        tellsTooManyAgain();
        leavesTooManyWithAChange();
        makesForty();
        makesNoneForThe41stTime();
        countsTooManyAmongForty();
        countsAllProgramsTogether();
        Checks.finish();
    }

    private static void solved(String text, String due) {
        RuleHouse house = Checks.house(text);
        Checks.same("no FAULT " + text, Checks.faultOf(house), "0@0");
        Checks.same("solve " + text, Checks.solve(house), due);
        boolean tooMany = due.equals("state");
        Checks.same("state " + text, house.total(5) + " " + house.total(6) + " " + house.total(8),
                (tooMany ? "2 0" : "1 " + due) + " 1");
    }

    /** "If there are more than 200 TUPLES of all strata so far behind a round ..: TOO MANY". */
    private static void endsWithTwoHundredInARound() {
        solved(UP + "199.", "199");
        solved(UP + "200.", "200");
        solved(UP + "201.", "state");
        solved(UP + "999999999.", "state");
        solved("n(0).n(Y):-n(X),Y is X+1.", "state");
        // All in one round: 14 and 14 times 13, 14 and 14 times 14, and some more.
        solved("m(X,Y):-n(X),n(Y),Y>0." + UP + "14.", "196");
        solved("m(X,Y):-n(X),n(Y)." + UP + "14.", "state");
        solved("m(X,Y):-n(X),n(Y),Y>0.m(a,1).m(a,2).m(a,3).m(a,4)." + UP + "14.", "200");
        solved("m(X,Y):-n(X),n(Y),Y>0.m(a,1).m(a,2).m(a,3).m(a,4).m(a,5)." + UP + "14.", "state");
        solved("m(X,Y,Z):-n(X),n(Y),n(Z)." + UP + "100.", "state");
    }

    /** Without FACTS the first TUPLE comes in round 1, and so each one a round later. */
    private static void endsWithTheTwoHundredthRound() {
        String up = "n(0):-1=1.n(Y):-n(X),Y is X+1,Y<";
        solved(up + "200.", "200");
        solved(up + "201.", "state");
        RuleHouse house = Checks.solved(up + "200.");
        Checks.same("rounds", Checks.round(house, 0, 0) + " " + Checks.round(house, 0, 199), "1 200");
        // In a higher stratum, too, where nothing is below.
        up = "n(0):-!m(1).n(Y):-n(X),Y is X+1,Y<";
        solved(up + "200.", "200");
        solved(up + "201.", "state");
        house = Checks.solved(up + "200.");
        Checks.same("rounds", Checks.round(house, 0, 0) + " " + Checks.round(house, 0, 199), "1 200");
    }

    private static RuleHouse withFacts(int many, String rules) {
        // Not all find room on the tape; the others come one by one, in two calls each.
        RuleHouse house = Checks.house(rules + Edges.facts("p", 1, 80));
        for (int i = 81; i <= many; i++) {
            Checks.same("FACT " + i, Checks.fact(house, "p(" + i + ").", 1), "true");
        }
        Checks.same("FACTS", house.total(4), many);
        return house;
    }

    private static void endsWithTwoHundredFacts() {
        Checks.same("200 FACTS", Checks.solve(withFacts(200, "")), "200");
        Checks.same("200, nothing new", Checks.solve(withFacts(200, "p(X):-p(X),X>5.")), "200");
        Checks.same("200, one new", Checks.solve(withFacts(200, "p(0):-p(X),X=5.")), "state");
        Checks.same("199, one new", Checks.solve(withFacts(199, "p(0):-p(X),X=5.")), "200");
        Checks.same("199, two new", Checks.solve(withFacts(199, "p(Y):-p(5),X=0,Y=X.p(-1):-p(0).")), "state");
    }

    /** "(0, too)": FACTS of a higher stratum come behind all of the lower ones. */
    private static void endsWithTwoHundredInRoundZero() {
        String high = "c(X):-n(X),!m(X),X<0.";
        solved(high + UP + "199.", "199");
        solved(high + "c(1)." + UP + "199.", "200");
        solved(high + "c(1).c(2)." + UP + "199.", "state");
        solved(high + "c(1)." + UP + "200.", "state");
        solved(high + UP + "200.", "200");
    }

    private static void endsWithTwoHundredOfAllStrata() {
        solved("d(1):-!m(1)." + UP + "199.", "200");
        solved("d(1):-!m(1).d(2):-!m(1)." + UP + "199.", "state");
        solved("d(1):-!m(1).e(2):-!d(2)." + UP + "198.", "200");
        solved("d(1):-!m(1).e(2):-!d(2)." + UP + "199.", "state");
        solved("d(1):-!m(1).e(2):-!d(2).e(3):-e(2)." + UP + "198.", "state");
        solved("d(X):-n(X),!m(X)." + UP + "100.", "200");
        solved("d(X):-n(X),!m(X)." + UP + "101.", "state");
        // The lower strata alone may be too many.
        solved("d(1):-!n(1)." + UP + "201.", "state");
        solved("d(1):-!n(1)." + UP + "200.", "200");
    }

    private static void endsWithTwoHundredGroups() {
        solved("c(count(X)):-n(X)." + UP + "199.", "200");
        solved("c(count(X)):-n(X)." + UP + "200.", "state");
        solved("c(count(X)):-n(X).c(sum(X)):-n(X)." + UP + "198.", "200");
        solved("c(count(X)):-n(X).c(sum(X)):-n(X)." + UP + "199.", "state");
        solved("c(X,count(Y)):-n(X),n(Y)." + UP + "100.", "200");
        solved("c(X,count(Y)):-n(X),n(Y)." + UP + "101.", "state");
        // More than 200 groups of one RULE.
        solved("c(X,Y,count(Z)):-n(X),n(Y),Z=1." + UP + "13.", "182");
        solved("c(X,Y,count(Z)):-n(X),n(Y),Z=1." + UP + "14.", "state");
        solved("c(X,Y,count(Z)):-n(X),n(Y),Z=1." + UP + "100.", "state");
    }

    private static void countsNoTupleTwice() {
        solved("m(X):-n(X).m(X):-n(X),1=1.m(X):-n(X),n(X)." + UP + "100.", "200");
        solved("n(1).n(5).n(199).n(0):-n(5)." + UP + "200.", "200");
        solved("c(count(X)):-n(X).c(199)." + UP + "199.", "200");
        // Many ways to few TUPLES.
        solved("m(Z):-n(X),n(Y),Z is X+Y,Z<100." + UP + "100.", "200");
    }

    /** "THE MODEL is made, if there is none and it was not TOO MANY since PROGRAM or FACTS changed". */
    private static void isMadeOnlyIfThereIsNone() {
        RuleHouse house = new RuleHouse();
        Checks.same("the first one is there", Checks.solve(house) + house.total(8), "00");
        Checks.program(house, "p(1).q(X):-p(X).");
        Checks.same("none", house.total(5) + " " + house.total(8), "0 0");
        Checks.same("made", Checks.solve(house) + " " + house.total(8), "2 1");
        Checks.same("told again", Checks.solve(house) + " " + house.total(8), "2 1");
        Checks.same("a FACT that is there", Checks.fact(house, "p(1).", 1), "false");
        Checks.same("a FACT that is not there", Checks.fact(house, "p(9).", 0), "false");
        Checks.same("a FACT with a FAULT", Checks.fact(house, "p(9)", 1), "1@4");
        Checks.same("another how", Checks.fact(house, "p(9).", 3), "0@0");
        Checks.same("a PROGRAM with a FAULT", Checks.program(house, "p(9)"), "1@4");
        Checks.same("a QUESTION", Checks.ask(house, "p(9)?"), "0");
        Checks.same("told again", Checks.solve(house) + " " + house.total(8), "2 1");
        Checks.same("a FACT comes", Checks.fact(house, "p(9).", 1), "true");
        Checks.same("made again", Checks.solve(house) + " " + house.total(8), "4 2");
        Checks.same("a FACT goes", Checks.fact(house, "p(9).", 0), "true");
        Checks.same("made again", Checks.solve(house) + " " + house.total(8), "2 3");
        Checks.same("the same PROGRAM", Checks.program(house, "p(1).q(X):-p(X)."), "1");
        Checks.same("none", house.total(5) + " " + house.total(6), "0 0");
        Checks.same("made again", Checks.solve(house) + " " + house.total(8), "2 4");
    }

    /** "IllegalStateException: TOO MANY (again, too, without being made again)". */
    private static void tellsTooManyAgain() {
        RuleHouse house = Edges.settled();
        Checks.program(house, UP + "201.");
        for (int i = 0; i < 3; i++) {
            Checks.same("TOO MANY " + i, Checks.solve(house), "state");
            Checks.same("made once " + i, Checks.totals(house), "2 2 1 1 1 2 0 1 2");
            Checks.same("no TUPLES " + i, house.predicate(0, 4), 0);
            Checks.same("no TUPLE " + i, Checks.tuple(house, 0, 0, 0), "none");
            Checks.same("no round " + i, Checks.round(house, 0, 0), "none");
            Checks.same("no MODEL to ask " + i, Checks.ask(house, "n(X)?"), "state");
            Checks.same("answers stay " + i, Checks.toldAnswers(house), "1,2 a,b");
        }
    }

    private static void leavesTooManyWithAChange() {
        RuleHouse house = Checks.solved(UP + "201.");
        Checks.same("a FACT that is there", Checks.fact(house, "n(0).", 1), "false");
        Checks.same("a FACT that is not there", Checks.fact(house, "n(1).", 0), "false");
        Checks.same("a FACT with a FAULT", Checks.fact(house, "n(X).", 0), "1@2");
        Checks.same("a PROGRAM with a FAULT", Checks.program(house, "n"), "1@1");
        Checks.same("still TOO MANY", house.total(5), 2);
        Checks.same("not made again", Checks.solve(house) + house.total(8), "state1");
        Checks.same("a FACT comes", Checks.fact(house, "n(7).", 1), "true");
        Checks.same("not as yet", house.total(5), 0);
        Checks.same("made again", Checks.solve(house) + house.total(8), "state2");
        Checks.same("a FACT goes", Checks.fact(house, "n(0).", 0), "true");
        Checks.same("made again, from 7 on", Checks.solve(house) + " " + house.total(8), "194 3");
        Checks.same("there is one", house.total(5) + " " + house.total(6), "1 194");
        Checks.program(house, UP + "201.");
        Checks.same("TOO MANY", Checks.solve(house), "state");
        Checks.same("another PROGRAM", Checks.program(house, UP + "3."), "1");
        Checks.same("made again", Checks.solve(house) + " " + house.total(8), "3 5");
    }

    /** Makes as many MODELS, the last one of them there. */
    private static RuleHouse made(int many) {
        RuleHouse house = Checks.house("p(a).q(X):-p(X).");
        for (int i = 1; i <= many; i++) {
            Checks.fact(house, "p(1).", i % 2);
            Checks.same("MODEL " + i, Checks.solve(house), i % 2 == 1 ? 4 : 2);
            Checks.same("made " + i, house.total(8), i);
        }
        return house;
    }

    /** "or it would be made for the 41st time (.. one that is there is told all the same". */
    private static void makesForty() {
        RuleHouse house = made(40);
        Checks.same("told", Checks.solve(house), "2");
        Checks.same("told again", Checks.solve(house), "2");
        Checks.same("asked", Checks.answers(house, "q(X)?"), "1: a");
        Checks.same("a FACT that is there", Checks.fact(house, "p(a).", 1), "false");
        Checks.same("a PROGRAM with a FAULT", Checks.program(house, "p"), "1@1");
        Checks.same("told all the same", Checks.solve(house), "2");
        Checks.same("totals", Checks.totals(house), "1 1 2 1 1 1 2 1 40");
    }

    /** "then there is none". */
    private static void makesNoneForThe41stTime() {
        RuleHouse house = made(40);
        Checks.ask(house, "q(X)?");
        Checks.same("a FACT comes", Checks.fact(house, "p(1).", 1), "true");
        for (int i = 0; i < 3; i++) {
            Checks.same("the 41st " + i, Checks.solve(house), "state");
            Checks.same("there is none " + i, Checks.totals(house), "1 1 2 1 2 0 0 1 40");
            Checks.same("no TUPLES " + i, house.predicate(0, 4) + " " + house.predicate(1, 4), "0 0");
            Checks.same("no TUPLE " + i, Checks.tuple(house, 0, 0, 0), "none");
            Checks.same("no round " + i, Checks.round(house, 0, 0), "none");
            Checks.same("nothing to ask " + i, Checks.ask(house, "p(X)?"), "state");
        }
        // Back to the FACTS of the 40th, it is not there again.
        Checks.same("a FACT goes", Checks.fact(house, "p(1).", 0), "true");
        Checks.same("nor that", Checks.solve(house), "state");
        Checks.same("answers stay", Checks.toldAnswers(house), "a");
    }

    /** "(those that were TOO MANY count". */
    private static void countsTooManyAmongForty() {
        RuleHouse house = made(38);
        Checks.program(house, UP + "201.");
        Checks.same("the 39th", Checks.solve(house) + house.total(8), "state39");
        Checks.same("again, not made", Checks.solve(house) + house.total(8), "state39");
        Checks.fact(house, "n(1).", 1);
        Checks.same("the 40th", Checks.solve(house) + house.total(8), "state40");
        Checks.same("TOO MANY", house.total(5), 2);
        Checks.same("told again", Checks.solve(house) + house.total(5) + house.total(8), "state240");
        Checks.fact(house, "n(0).", 0);
        Checks.same("the 41st", Checks.solve(house) + house.total(8), "state40");
        Checks.same("there is none, nor TOO MANY", house.total(5), 0);
    }

    /** "the 40 MODELS and 500 QUESTIONS below are of all PROGRAMS together". */
    private static void countsAllProgramsTogether() {
        RuleHouse house = new RuleHouse();
        for (int i = 1; i <= 40; i++) {
            Checks.program(house, "p(" + i + ").");
            Checks.same("MODEL " + i, Checks.solve(house) + " " + house.total(8), "1 " + i);
        }
        Checks.same("told", Checks.solve(house), "1");
        Checks.same("another PROGRAM", Checks.program(house, ""), "0");
        Checks.same("the 41st", Checks.solve(house), "state");
        Checks.same("there is none", Checks.totals(house), "0 0 0 0 0 0 0 0 40");
    }
}
