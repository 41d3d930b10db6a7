/** Promise 6, and THE MODEL under Terms. */
public final class SolveTest {
    public static void main(String[] args) {
        followsRules();
        looksAtAbsence();
        compares();
        reckons();
        totals();
        worksInStrata();
        tellsTooMany();
        makesForty();
        Checks.finish();
    }

    /** The TUPLES of predicate 0. */
    private static void model(String text, String due) {
        RuleHouse house = Checks.house(text);
        Checks.same("no FAULT: " + text, Checks.faultOf(house), "0@0");
        Checks.same("solved: " + text, Checks.solve(house), house.total(6));
        Checks.same(text, Checks.tuples(house, 0), due);
    }

    private static void followsRules() {
        model("t(X,Y):-e(X,Y). t(X,Z):-t(X,Y),e(Y,Z). e(1,2). e(2,3). e(3,a). e(a,1).",
                "1,1:4 1,2:1 1,3:2 1,a:3 2,1:3 2,2:4 2,3:1 2,a:2 "
                + "3,1:2 3,2:3 3,3:4 3,a:1 a,1:1 a,2:2 a,3:3 a,a:4");
        model("t(X,Y):-e(X,Y). t(X,Z):-t(X,Y),t(Y,Z). e(1,2). e(2,3). e(3,4). e(4,5). e(5,6).",
                "1,2:1 1,3:2 1,4:3 1,5:3 1,6:4 2,3:1 2,4:2 2,5:3 2,6:3 3,4:1 3,5:2 3,6:3 "
                + "4,5:1 4,6:2 5,6:1");
        model("p(X):-q(X,X). q(1,2). q(2,2). q(a,a). q(a,b).", "2:1 a:1");
        model("p(X):-q(X,_). q(1,2). q(1,3). q(2,4).", "1:1 2:1");
        model("p(X,Y):-q(X),q(Y). q(1). q(b).", "1,1:1 1,b:1 b,1:1 b,b:1");
        model("p(yes):-q(1),q(2). q(1). q(2).", "yes:1");
        model("p(yes):-q(1),q(3). q(1). q(2).", "");
        model("p(X,1,a,-3):-q(X). q(7).", "7,1,a,-3:1");
        model("p(1). p(2):-p(1). p(3):-p(2). p(3). p(4):-p(3).", "1:0 2:1 3:0 4:1");
        model("p(X):-q(X),r(X),s(X). q(1).q(2).q(3). r(2).r(3).r(4). s(3).s(4).s(2).", "2:1 3:1");
        model("p(X):-q(X,a,Y),r(Y,2). q(1,a,5). q(2,b,5). q(3,a,6). r(5,2). r(6,3).", "1:1");
        model("p(X):-p(X).", "");
        model("p(H,G):-q(A,B,C,D),r(E,F,G,H),H>A,!s(H). q(1,2,3,4). r(5,6,7,8). r(5,6,7,9). r(5,6,7,1). "
                + "s(9).", "8,7:1");
        model("t(X,W):-t(X,Y),t(Y,Z),t(Z,W). t(1,2). t(2,3). t(3,4). t(4,5). t(5,6). t(6,7). t(7,8). "
                + "t(8,9). t(9,10).", "1,2:0 1,4:1 1,6:2 1,8:2 1,10:2 2,3:0 2,5:1 2,7:2 2,9:2 3,4:0 3,6:1 "
                + "3,8:2 3,10:2 4,5:0 4,7:1 4,9:2 5,6:0 5,8:1 5,10:2 6,7:0 6,9:1 7,8:0 7,10:1 8,9:0 9,10:0");
        model("p(X,Y):-p(Y,X). p(X,Z):-p(X,Y),q(Y,Z). q(X,Y):-p(Y,X). p(1,2). q(2,3).",
                "1,1:2 1,2:0 1,3:1 2,1:1 2,2:3 2,3:4 3,1:2 3,2:3 3,3:4");
    }

    private static void looksAtAbsence() {
        model("p(X):-q(X),!r(X). q(1). q(2). q(c). r(2).", "1:1 c:1");
        model("p(X):-q(X),!r(X,_). q(1). q(2). r(2,5). r(3,1).", "1:1");
        model("p(X):-q(X),!r(_,X). q(1). q(2). r(2,5). r(3,1).", "2:1");
        model("p(1):-!r(_). r(2):-1=2.", "1:1");
        model("p(1):-!r(_). r(2).", "");
        model("p(1):-!r(_,_,3,_). r(1,2,3,4).", "");
        model("p(1):-!r(_,_,4,_). r(1,2,3,4).", "1:1");
        model("p(X):-!r(X),q(X),!r(2). q(1). r(3).", "1:1");
        model("p(X):-q(X),!r(Y),Y is X+1. q(1). q(2). r(3).", "1:1");
        model("p(X):-q(X),!r(X,X,_). q(1). q(2). r(1,1,1). r(1,2,2).", "2:1");
        model("w(X):-m(X,Y),!l(Y). l(X):-m(X,_),!d(X). d(X):-m(X,Y),!m(Y,_). "
                + "m(1,2). m(2,3). m(3,4).", "2:1 3:1");
    }

    private static void compares() {
        model("p(X):-q(X),X<3. q(1). q(3). q(-9). q(a).", "-9:1 1:1");
        model("p(X):-q(X),X>3. q(1). q(3). q(4). q(a).", "4:1 a:1");
        model("p(X):-q(X),X<=a1. q(5). q(a). q(a1). q(a12). q(aa). q(b).", "5:1 a:1 a1:1");
        model("p(X):-q(X),X>=ab. q(5). q(a). q(ab). q(a9). q(abc). q(b).", "ab:1 abc:1 b:1");
        model("p(X):-q(X),X!=1. q(1). q(a). q(2).", "2:1 a:1");
        model("p(X,Y):-q(X),q(Y),X=Y. q(1). q(a).", "1,1:1 a,a:1");
        model("p(X,Y):-X=Y,Y=3.", "3,3:1");
        model("p(X):-X=a.", "a:1");
        model("p(X):-q(X),X=2. q(1). q(2).", "2:1");
        model("p(1):-1=1. p(2):-1=2. p(3):-a=a. p(4):-a<b. p(5):-b<a. p(6):-9<a. p(7):-a<9.",
                "1:1 3:1 4:1 6:1");
        model("p(1):-1<1. p(2):-1<=1. p(3):-1>1. p(4):-1>=1. p(5):-1!=1. p(6):- -2< -1.",
                "2:1 4:1 6:1");
    }

    private static void reckons() {
        model("p(Y):-q(X),Y is X+2. q(1). q(a). q(-5).", "-3:1 3:1");
        model("p(a,Y):-Y is 7-9. p(b,Y):-Y is 7*-9. p(c,Y):-Y is 7/2. p(d,Y):-Y is 7%4.",
                "a,-2:1 b,-63:1 c,3:1 d,3:1");
        model("p(a,Y):-Y is -7/2. p(b,Y):-Y is -7%4. p(c,Y):-Y is 7/ -2. p(d,Y):-Y is 7% -4.",
                "a,-3:1 b,-3:1 c,-3:1 d,3:1");
        model("p(X):-X is 1/0. p(X):-X is 0/0. p(X):-X is 1%0. p(X):-q(Y),X is 3%Y. q(0).", "");
        model("p(X):-X is 0/5. p(X):-X is 1*0. p(X):-q(Y),X is Y-0. q(7).", "0:1 7:1");
        model("p(Z):-X is 999999999*3,Y is X-999999999,Z is Y*7.", "1115098098:1");
        model("p(M,N,R):-A is 2*536870912,M is A*2,N is M/ -1,R is M% -1.",
                "-2147483648,-2147483648,0:1");
        model("p(X):-q(X),X is 2+2. q(4). q(5). q(a).", "4:1");
        model("p(X):-q(X),X is X*1. q(4). q(a).", "4:1");
        model("p(X):-X is a+1.", "");
        model("p(X):-Y=3,X is Y+Z,Z is Y*Y.", "12:1");
        model("n(0). n(Y):-n(X),Y is X+1,Y<6.", "0:0 1:1 2:2 3:3 4:4 5:5");
    }

    private static void totals() {
        model("c(X,count(Y)):-q(X,Y). q(1,2). q(1,3). q(a,3).", "1,2:1 a,1:1");
        model("c(sum(Y),X):-q(X,Y). q(1,2). q(1,-3). q(1,x). q(2,x).", "-1,1:1 0,2:1");
        model("c(X,least(Y)):-q(X,Y). q(1,2). q(1,-3). q(1,x). q(2,y). q(2,x).", "1,-3:1 2,x:1");
        model("c(X,most(Y)):-q(X,Y). q(1,2). q(1,-3). q(2,y). q(2,9). q(2,x).", "1,2:1 2,y:1");
        model("c(count(X)):-q(X,Y). q(1,2). q(1,3). q(2,3).", "3:1");
        model("c(count(X)):-q(X,Y). q(0,2). q(0,3). q(0,0).", "3:1");
        model("c(sum(X)):-q(X,Y),q(Z,0). q(0,2). q(0,0). q(5,0).", "10:1");
        model("c(least(X),Y):-q(X,Y). q(0,2). q(-1,2). q(0,0). q(5,0).", "-1,2:1 0,0:1");
        model("c(count(X)):-q(X,Y),r(Z). q(1,2). q(1,3). r(1). r(2).", "4:1");
        model("c(count(X)):-q(X),1=2. q(1).", "");
        model("c(count(X)):-q(X),X>5. q(1). q(6).", "1:1");
        model("c(sum(X)):-q(X),r(X).", "");
        model("c(count(X)):-X=5.", "1:1");
        model("c(most(X)):-X=5.", "5:1");
        model("c(X,sum(X)):-q(X). q(2). q(3). q(a).", "2,2:1 3,3:1 a,0:1");
        model("c(a,count(X),7):-q(X). q(2). q(3).", "a,2,7:1");
        model("c(sum(Z)):-q(X),Z is X*999999999. q(1). q(2). q(3).", "1705032698:1");
        model("c(2). c(9). c(count(X)):-q(X). c(sum(X)):-q(X). q(4). q(5).", "2:0 9:0");
        model("c(count(X)):-q(X),!r(X,_). q(4). q(5). q(6). r(5,1). r(5,2).", "2:1");
        model("c(Y,count(X)):-q(X),Y is X%2. q(1). q(2). q(3).", "0,1:1 1,2:1");
    }

    private static void worksInStrata() {
        // Rounds begin anew in each stratum.
        model("far(X,Y):-n(X),n(Y),!near(X,Y). near(X,X):-n(X). near(X,Y):-near(X,Z),e(Z,Y). "
                + "n(1). n(2). n(3). e(1,2). e(2,3).", "2,1:1 3,1:1 3,2:1");
        // It is in the stratum of c, whose TUPLE comes in round 1.
        model("top(X):-c(X). top(Y):-top(X),Y is X+1,Y<5. c(count(X)):-q(X). q(a). q(b).",
                "2:2 3:3 4:4");
        // A TOTAL's TUPLES feed RULES of the same predicate.
        model("c(count(X)):-q(X). c(Y):-c(X),Y is X-1,Y>0. q(a). q(b). q(c).", "1:3 2:2 3:1");
        // FACTS of a higher stratum are of its round 0.
        model("c(8). c(X):-q(X),!r(X). q(1). q(2). r(2).", "1:1 8:0");
    }

    private static void tellsTooMany() {
        String up = "n(0). n(Y):-n(X),Y is X+1";
        RuleHouse house = Checks.house(up + ",Y<200.");
        Checks.same("200 TUPLES", Checks.solve(house), "200");
        Checks.same("the last one", Checks.round(house, 0, 199), "199");
        Checks.same("201 TUPLES", Checks.program(house, up + ",Y<=200."), "1");
        Checks.same("TOO MANY", Checks.solve(house), "state");
        Checks.same("it counts as made", Checks.totals(house), "0 0 1 1 1 2 0 1 2");
        Checks.same("again", Checks.solve(house), "state");
        Checks.same("without being made again", house.total(8), 2);
        Checks.same("no TUPLES", house.predicate(0, 4), 0);
        Checks.same("no TUPLES, nor rounds", Checks.tuple(house, 0, 0, 0) + Checks.round(house, 0, 0),
                "nonenone");
        Checks.same("no MODEL to ask", Checks.ask(house, "n(0)?"), "state");
        Checks.same("a FACT that is there leaves it", Checks.fact(house, "n(0).", 1), "false");
        Checks.same("still TOO MANY", house.total(5), 2);
        Checks.same("a FACT goes", Checks.fact(house, "n(0).", 0), "true");
        Checks.same("no MODEL as yet", house.total(5), 0);
        Checks.same("made again", Checks.solve(house), "0");
        Checks.same("made 3 times", house.total(8), 3);
        Checks.same("without an end", Checks.program(house, up + "."), "1");
        Checks.same("TOO MANY", Checks.solve(house), "state");

        String pairs = "m(X,Y):-n(X),n(Y). n(1). n(2). n(3). n(4). n(5). n(6). n(7). n(8). n(9)."
                + "n(10). n(11). n(12). n(13).";
        Checks.program(house, pairs + "k(X):-!m(X,X),n(X).");
        Checks.same("182", Checks.solve(house), "182");
        Checks.fact(house, "n(14).", 1);
        Checks.same("210", Checks.solve(house), "state");
        Checks.program(house, pairs + "k(X,count(Y)):-m(X,Y).");
        Checks.same("195", Checks.solve(house), "195");
        Checks.program(house, pairs + "k(X,count(Y)):-m(X,Y). l(X):-k(X,_),X>1,X<7.");
        Checks.same("200", Checks.solve(house), "200");
        Checks.program(house, pairs + "k(X,count(Y)):-m(X,Y). l(X):-k(X,_),X<7.");
        Checks.same("201 with a later stratum", Checks.solve(house), "state");
        Checks.program(house, "p(X,Y,Z,count(W)):-n(X),n(Y),n(Z),W=1. n(1). n(2). n(3). n(4). n(5).");
        Checks.same("130 groups", Checks.solve(house), "130");
        Checks.fact(house, "n(6).", 1);
        Checks.same("222", Checks.solve(house), "state");
    }

    private static void makesForty() {
        RuleHouse house = Checks.house("p(0). n(Y):-p(X),n(X),Y is X+1. n(Y):-p(a),n(X),Y is X+1.");
        for (int i = 1; i <= 39; i++) {
            Checks.fact(house, "p(" + i + ").", 1);
            Checks.same("made " + i, Checks.solve(house), i + 1);
            Checks.same("there " + i, Checks.solve(house), i + 1);
        }
        Checks.fact(house, "p(a).", 1);
        Checks.fact(house, "n(1).", 1);
        Checks.same("the 40th is TOO MANY", Checks.solve(house), "state");
        Checks.same("it is", Checks.totals(house), "0 0 2 2 42 2 0 1 40");
        Checks.same("it is told again", Checks.solve(house) + house.total(5), "state2");
        Checks.fact(house, "p(a).", 0);
        Checks.same("the 41st", Checks.solve(house), "state");
        Checks.same("then there is none", Checks.totals(house), "0 0 2 2 41 0 0 1 40");
        Checks.program(house, "");
        Checks.same("nor for another PROGRAM", Checks.solve(house), "state");
        Checks.same("there is none", Checks.totals(house), "0 0 0 0 0 0 0 0 40");

        house = Checks.house("p(0).");
        for (int i = 1; i <= 40; i++) {
            Checks.fact(house, "p(" + i + ").", 1);
            Checks.solve(house);
        }
        Checks.same("one that is there is told all the same", Checks.solve(house), "41");
        Checks.same("made 40 times", house.total(8), 40);
        Checks.same("a FACT that is there keeps it", Checks.fact(house, "p(1).", 1), "false");
        Checks.same("still there", Checks.solve(house), "41");
    }
}
