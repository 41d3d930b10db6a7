/** Boundaries of the rounds, of ATOMS and their absence in them, and of promise 12, sentence by sentence. */
public final class RoundEdgeTest {
    public static void main(String[] args) {
        hasFactsInRoundZero();
        usesEarlierRoundsOnly();
        beginsAnewInEachStratum();
        givesTotalsInRoundOne();
        keepsTheFirstRound();
        endsWithTheFirstEmptyRound();
        looksForAbsence();
        asksTheSameTwice();
        leavesVariablesOut();
        forgetsEarlierTexts();
        tellsNoRoundOfNoTuple();
        Checks.finish();
    }

    /** "round 0 has the FACTS of its predicates". */
    private static void hasFactsInRoundZero() {
        Edges.model("p(1).p(a).", "1:0 a:0");
        Edges.model("p(1).p(X):-q(X).q(1).q(2).", "1:0 2:1");
        Edges.model("p(X):-q(X).q(1).q(2).p(2).", "1:1 2:0");
        // In a higher stratum, too.
        Edges.model("p(1).p(X):-q(X),!r(X).q(1).q(2).", "1:0 2:1");
        Edges.model("p(2).p(count(X)):-q(X).q(1).q(2).q(3).", "2:0 3:1");
        Edges.model("p(3).p(count(X)):-q(X).q(1).q(2).q(3).", "3:0");
        // No FACTS at all: RULES without ATOMS give theirs in round 1.
        Edges.model("p(1):-1=1.p(X):-X=2.p(X):-X is 1+2.p(4):-!q(1).", "1:1 2:1 3:1 4:1");
    }

    /** "In round r (1, 2, ..) its RULES give, from TUPLES of earlier rounds and lower strata, new TUPLES". */
    private static void usesEarlierRoundsOnly() {
        Edges.model("p(1).p(2):-p(1).p(3):-p(2).p(4):-p(3).", "1:0 2:1 3:2 4:3");
        // The order of the RULES in the text does not count.
        Edges.model("p(4):-p(3).p(3):-p(2).p(2):-p(1).p(1).", "1:0 2:1 3:2 4:3");
        Edges.model("p(X):-q(X).q(X):-r(X).r(X):-s(X).s(1).", "1:3");
        Edges.model("s(1).r(X):-s(X).q(X):-r(X).p(X):-q(X).", "1:0");
        Edges.model("a(X):-b(X).b(X):-a(X).b(1).a(2).", "1:1 2:0");
        // Two ATOMS of the same stratum: both must be of earlier rounds.
        Edges.model("p(3):-p(1),p(2).p(2):-p(1).p(1).", "1:0 2:1 3:2");
        Edges.model("p(4):-p(1),p(3),p(2).p(3):-p(2),p(1).p(2):-p(1).p(1).", "1:0 2:1 3:2 4:3");
        Edges.model("t(X,Z):-t(X,Y),t(Y,Z).t(1,2).t(2,3).t(3,4).t(4,5).t(5,6).t(6,7).t(7,8).t(8,9).",
                "1,2:0 1,3:1 1,4:2 1,5:2 1,6:3 1,7:3 1,8:3 1,9:3 2,3:0 2,4:1 2,5:2 2,6:2 2,7:3 2,8:3 2,9:3 "
                + "3,4:0 3,5:1 3,6:2 3,7:2 3,8:3 3,9:3 4,5:0 4,6:1 4,7:2 4,8:2 4,9:3 5,6:0 5,7:1 5,8:2 5,9:2 "
                + "6,7:0 6,8:1 6,9:2 7,8:0 7,9:1 8,9:0");
    }

    /** "Stratum by stratum, from 0 on". */
    private static void beginsAnewInEachStratum() {
        // n comes up to round 5; what asks on it from above is of round 1 all the same.
        String up = "n(0).n(Y):-n(X),Y is X+1,Y<6.";
        Edges.model("p(X):-n(X),!m(X).m(0)." + up, "1:1 2:1 3:1 4:1 5:1");
        Edges.model("p(count(X)):-n(X)." + up, "6:1");
        // In the same stratum it is one round behind.
        Edges.model("p(X):-n(X)." + up, "0:1 1:2 2:3 3:4 4:5 5:6");
        // A RULE of a higher stratum without ! of its own.
        Edges.model("p(X):-n(X).p(9):-!m(1).m(0)." + up, "0:1 1:1 2:1 3:1 4:1 5:1 9:1");
        Edges.model("p(X):-q(X).q(X):-n(X),!m(X).m(0).m(1).m(2)." + up, "3:2 4:2 5:2");
    }

    /** "RULES with a TOTAL give theirs in round 1". */
    private static void givesTotalsInRoundOne() {
        Edges.model("c(count(X)):-q(X).q(1).q(2).", "2:1");
        Edges.model("c(X):-d(X).d(count(X)):-q(X).q(1).q(2).", "2:2");
        Edges.model("c(count(X)):-q(X).c(Y):-c(X),Y is X+1,Y<5.q(1).q(2).", "2:1 3:2 4:3");
        // What is made from it in later rounds does not come to it again.
        Edges.model("c(count(X)):-q(X).c(sum(X)):-q(X).c(Y):-c(X),Y is X-1,Y>0.q(2).q(3).",
                "1:2 2:1 3:3 4:2 5:1");
        Edges.model("c(count(X)):-X=1.c(Y):-c(X),Y is X+1,Y<4.", "1:1 2:2 3:3");
        // What a RULE makes of a TOTAL in a later round, whatever number it is.
        for (int number = -1; number <= 3; number++) {
            String due = number == 1 ? "1:1" : number < 1 ? number + ":2 1:1" : "1:1 " + number + ":2";
            Edges.model("c(count(X)):-q(X).c(" + number + "):-c(1).q(1).", due);
            Edges.model("c(" + number + "):-c(1).c(count(X)):-q(X).q(1).", due);
        }
        Edges.model("c(X,sum(Y)):-q(X,Y).c(Y,0):-c(X,Y).q(1,5).q(0,2).", "0,0:3 0,2:1 1,5:1 2,0:2 5,0:2");
    }

    /** "A TUPLE's round is the first in which it comes". */
    private static void keepsTheFirstRound() {
        Edges.model("p(X):-q(X).p(Y):-p(X),e(X,Y).q(1).e(1,2).e(2,1).e(2,2).", "1:1 2:2");
        Edges.model("p(2):-q(1).p(2):-p(1).p(1):-q(1).q(1).", "1:1 2:1");
        Edges.model("p(1).p(1):-p(1).", "1:0");
    }

    /** "The stratum ends with the first round that gives nothing new". */
    private static void endsWithTheFirstEmptyRound() {
        Edges.model("p(X):-p(X).", "");
        Edges.model("p(1).p(X):-p(X).", "1:0");
        Edges.model("p(1).p(Y):-p(X),Y is 1-X.", "0:1 1:0");
        // Round 1 gives nothing in the lower stratum; the higher one is made all the same.
        Edges.model("p(1):-!q(1).q(1):-q(1).", "1:1");
        Edges.model("p(1):-!q(1).", "1:1");
        // As many rounds as TUPLES but one.
        RuleHouse house = Checks.solved("n(0).n(Y):-n(X),Y is X+1,Y<200.");
        for (int i = 0; i < 200; i++) {
            Checks.same("round of " + i, Checks.round(house, 0, i), i);
        }
    }

    /** "an ATOM is a TUPLE (_ is anything); ! ATOM: there is no such TUPLE (with anything for _)". */
    private static void looksForAbsence() {
        Edges.model("p(1):-q(_).q(a).", "1:1");
        Edges.model("p(1):-q(_).q(a):-1=2.", "");
        Edges.model("p(X):-q(X,_).q(1,2).q(1,3).q(4,4).", "1:1 4:1");
        // Each _ is for itself.
        Edges.model("p(1):-q(_,_).q(1,2).", "1:1");
        Edges.model("p(1):-!q(_,_).q(1,2).", "");
        Edges.model("p(1):-!q(_).q(1):-1=2.", "1:1");
        Edges.model("p(1):-!q(_).q(a).", "");
        Edges.model("p(1):-!q(2).q(a).", "1:1");
        Edges.model("p(X):-s(X),!q(X,_).s(1).s(2).q(1,7).", "2:1");
        Edges.model("p(X):-s(X),!q(_,X).s(1).s(2).q(7,1).", "2:1");
        Edges.model("p(X):-s(X),!q(X,X).s(1).s(2).q(1,2).q(2,2).", "1:1");
        Edges.model("p(X):-s(X),!q(X,1,_,X).s(1).s(2).q(1,1,5,1).q(2,2,5,2).", "2:1");
        // A SYMBOL is no number, and a number no SYMBOL.
        Edges.model("p(X):-s(X),!q(X).s(1).s(a).q(a).", "1:1");
        // A predicate without FACTS and RULES has no TUPLES.
        Edges.model("p(X):-s(X),!q(X).s(1).", "1:1");
        Edges.model("p(X):-s(X),q(X).s(1).", "");
    }

    private static void asksTheSameTwice() {
        Edges.model("p(X):-q(X,X).q(1,1).q(1,2).q(a,a).", "1:1 a:1");
        Edges.model("p(X,Y):-q(X,Y),q(Y,X).q(1,2).q(2,1).q(3,4).", "1,2:1 2,1:1");
        Edges.model("p(X):-q(X),q(X),q(X).q(1).", "1:1");
        Edges.model("p(X,Y,Z):-q(X),q(Y),q(Z),X<Y,Y<Z.q(1).q(2).q(3).q(4).", "1,2,3:1 1,2,4:1 1,3,4:1 2,3,4:1");
    }

    /** "of RULES without a TOTAL the HEAD, for all VALUES of their VARIABLES with which all LITERALS hold". */
    private static void leavesVariablesOut() {
        // The VARIABLE that links both ATOMS is not in the HEAD; the first ATOM alone settles nothing.
        String links = "q(1,1,1,5).q(1,1,1,6).q(1,1,2,6).r(5,a).r(6,b).r(7,c).";
        Edges.model("p(A,B,C,D):-q(A,B,C,E),r(E,D)." + links, "1,1,1,a:1 1,1,1,b:1 1,1,2,b:1");
        Edges.model("p(D,A,B,C):-q(A,B,C,E),r(E,D)." + links, "a,1,1,1:1 b,1,1,1:1 b,1,1,2:1");
        Edges.model("p(A,D,B):-q(A,B,_,E),r(E,D)." + links, "1,a,1:1 1,b,1:1");
        Edges.model("p(A,D):-q(A,_,_,E),r(E,D)." + links, "1,a:1 1,b:1");
        Edges.model("p(D):-q(_,_,_,E),r(E,D)." + links, "a:1 b:1");
        Edges.model("p(A):-q(A,_,_,E),r(E,c)." + links, "");
        Edges.model("p(C):-q(_,_,C,E),r(E,a),!r(E,b)." + links, "1:1");
        // The first way does not hold, another one does.
        for (int good = 1; good <= 3; good++) {
            Edges.model("p(A,B,C,7):-q(A,B,C,E),E=" + good + ".q(1,2,3,1).q(1,2,3,2).q(1,2,3,3).", "1,2,3,7:1");
            Edges.model("p(7):-q(E),!r(E).q(1).q(2).q(3)." + others("r", good), "7:1");
            Edges.model("p(A,B,C,D):-q(A,B,C,E),D is E*10,E=" + good + ".q(1,2,3,1).q(1,2,3,2).q(1,2,3,3).",
                    "1,2,3," + good * 10 + ":1");
        }
    }

    /** FACTS of the numbers 1 to 3 but for one. */
    private static String others(String name, int one) {
        String all = name + "(1)." + name + "(2)." + name + "(3).";
        return all.replace(name + "(" + one + ").", "");
    }

    /** RULES of the same place in earlier texts, and earlier QUESTIONS, leave nothing. */
    private static void forgetsEarlierTexts() {
        String[] bodies = {"q(X),r(X)", "q(X),r(Y)", "q(X),!r(X)", "q(X),X is 1+1", "X=2,q(Y)", "q(_),X=3", "q(X),r(_)"};
        String[] due = {"2", "1 2", "1", "2", "2", "3", "1 2"};
        RuleHouse house = new RuleHouse();
        for (int i = 0; i < bodies.length * 2; i++) {
            // Two texts behind one another have different places to be kept in.
            int at = i / 2;
            Checks.program(house, "p(X):-" + bodies[at] + ".q(1).q(2).r(2).r(3).");
            Checks.solve(house);
            Checks.same(bodies[at], Checks.tuples(house, 0), due[at].replace(" ", ":1 ") + ":1");
        }
        house = Checks.solved("q(1).q(2).r(2).r(3).");
        Checks.same("one VARIABLE", Checks.answers(house, "q(X),r(X)?"), "1: 2");
        Checks.same("two", Checks.answers(house, "q(X),r(Y)?"), "4: 1,2 1,3 2,2 2,3");
        Checks.same("absent", Checks.answers(house, "q(X),!r(X)?"), "1: 1");
        Checks.same("one again", Checks.answers(house, "r(X),!q(X)?"), "1: 3");
        Checks.same("none", Checks.answers(house, "q(2),r(2)?"), "1: ");
        Checks.same("two again", Checks.answers(house, "q(X),r(Y),X!=Y?"), "3: 1,2 1,3 2,3");
    }

    /** "NoSuchElementException: there is none such". */
    private static void tellsNoRoundOfNoTuple() {
        RuleHouse house = Checks.house("p(1).p(2).q(X):-p(X),X>1.s(X):-q(X),X>2.");
        Checks.same("no MODEL", Checks.round(house, 0, 0), "none");
        Checks.solve(house);
        Checks.same("the first one", Checks.round(house, 0, 0), "0");
        Checks.same("the last one", Checks.round(house, 0, 1), "0");
        Checks.same("one more", Checks.round(house, 0, 2), "none");
        Checks.same("one less", Checks.round(house, 0, -1), "none");
        Checks.same("of a RULE", Checks.round(house, 1, 0), "1");
        Checks.same("of the next predicate's", Checks.round(house, 1, 1), "none");
        Checks.same("of one without TUPLES", Checks.round(house, 2, 0), "none");
        Checks.same("of no predicate", Checks.round(house, 3, 0), "none");
        Checks.same("of predicate -1", Checks.round(house, -1, 0), "none");
        int[] far = {Integer.MIN_VALUE, Integer.MAX_VALUE, 16, 200, 201, -2};
        for (int one : far) {
            Checks.same("far i " + one, Checks.round(house, 0, one), "none");
            Checks.same("far p " + one, Checks.round(house, one, 0), "none");
        }
        Checks.fact(house, "p(1).", 0);
        Checks.same("no MODEL again", Checks.round(house, 0, 0), "none");
    }
}
