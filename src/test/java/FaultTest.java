/** Promise 5, and the FAULTS under Terms. */
public final class FaultTest {
    private static final String TWENTY_BLANKS = "                    ";

    public static void main(String[] args) {
        tellsLatest();
        tellsTokens();
        tellsGrammar();
        tellsLimits();
        tellsArguments();
        tellsUnbound();
        tellsHanging();
        tellsFirst();
        forgetsOldTexts();
        Checks.finish();
    }

    private static void program(String text, String due) {
        Checks.same(text, Checks.program(new RuleHouse(), text), due);
    }

    private static void question(String text, String due) {
        Checks.same(text, Checks.ask(Checks.solved("p(1).q(1,2).r(1):-p(1)."), text), due);
    }

    private static void tellsLatest() {
        RuleHouse house = new RuleHouse();
        Checks.same("no call as yet", Checks.faultOf(house), "0@0");
        Checks.program(house, "p(1) ~");
        Checks.same("of program()", Checks.faultOf(house), "1@5");
        house.solve();
        house.total(0);
        house.type('p', 1);
        Checks.same("others leave it", Checks.faultOf(house), "1@5");
        Checks.same("the latest one", Checks.program(house, "(1)."), "0");
        Checks.same("none", Checks.faultOf(house), "0@0");
        Checks.ask(house, "p(1,2)?");
        Checks.same("of ask()", Checks.faultOf(house), "2@0");
        Checks.same("ask() without a MODEL", Checks.ask(house, "p(1)?"), "state");
        Checks.same("an IllegalStateException is none", Checks.faultOf(house), "0@0");
        Checks.fact(house, "p(X).", 1);
        Checks.same("of fact()", Checks.faultOf(house), "1@2");
        Checks.fact(house, "p(1).", 1);
        Checks.same("a FACT that is there has none", Checks.faultOf(house), "0@0");
        int[] others = {-1, 2, 3, Integer.MAX_VALUE, Integer.MIN_VALUE};
        for (int what : others) {
            Checks.same("fault " + what, house.fault(what), RuleHouse.NONE);
        }
    }

    private static void tellsTokens() {
        program("p(abcdef).", "0");
        program("p(abcdefg).", "1@2");
        program("p(a12345).", "0");
        program("p(a123456).", "1@2");
        program("p(123456789).", "0");
        program("p(1234567890).", "1@2");
        program("p(-000000001).", "0");
        program("p(X):-q(X),Abc1=X,Abc1<3.", "1");
        program("p(X):-q(Abcd1).", "1@8");
        program("p(1a).", "1@3");
        program("p(aB).", "1@3");
        program("p(A1b):-q(A1b).", "1");
        program("p(1) : -q(1).", "1@5");
        program("p(1) :", "1@5");
        program("p(1):-", "1@6");
        program("p(1):-1<", "1@8");
        program("p(1):-1<=", "1@9");
        program("p(1):-1! =2.", "1@7");
        program("p(1):-1!=2.", "1");
        program("p(1):-1< =2.", "1@9");
        program("p(1):-1=<2.", "1@8");
        program("p(1):-1==2.", "1@8");
        program("p(1):-2>=1,1<=2.", "1");
        program("p(1):-1=2!=3.", "1@9");
        program("#", "1@0");
        program("p(1).;", "1@5");
        program("p(1)." + TWENTY_BLANKS + "~", "1@25");
        program("p(" + TWENTY_BLANKS, "1@22");
    }

    private static void tellsGrammar() {
        program("P(1).", "1@0");
        program("is(1).", "1@0");
        program("count(1).", "1@0");
        program("p.", "1@1");
        program("p().", "1@2");
        program("p(1,).", "1@4");
        program("p(1 2).", "1@4");
        program("p(1)", "1@4");
        program("p(is).", "1@2");
        program("p(--1).", "1@3");
        program("p(-a).", "1@3");
        program("p(-X):-q(X).", "1@3");
        program("p(- 1).", "0");
        program("p(_).", "1@2");
        program("p(_):-q(1).", "1@2");
        program("p(1):-.", "1@6");
        program("p(1):-q(1),.", "1@11");
        program("p(1):-q(1)?", "1@10");
        program("p(1):-q(1)q(2).", "1@10");
        program("p(1):-!!q(1).", "1@7");
        program("p(1):-!X=1.", "1@7");
        program("p(1):-!most(1).", "1@7");
        program("p(1):-sum(1).", "1@6");
        program("p(1):-q.", "1@7");
        program("p(1):-q<r.", "1");
        program("p(1):-q is 1+1.", "1@8");
        program("p(1):-1 is 1+1.", "1@8");
        program("p(X):-X is 1.", "1@12");
        program("p(X):-X is a+b.", "1");
        program("p(X):-X is 1+2+3.", "1@14");
        program("p(X):-X is 1=2.", "1@12");
        program("p(X):-X is 1--2.", "1");
        program("p(X):-X is -1- -2.", "1");
        program("p(X):-X+1=2.", "1@7");
        program("p(X):-X is.", "1@10");
        program("p(1):-_=1.", "1@6");
        program("p(1):-1=_.", "1@8");
        program("p(1):-(1=1).", "1@6");
        program("p(1):-q(r(1)).", "1@9");
        program("p(1):-q(count(X)).", "1@8");
        program("p(count(X)):-q(X).", "1");
        program("p(least ( X ) ,most):-q(X).", "1@15");
        program("p(count X):-q(X).", "1@8");
        program("p(count(1)):-q(1).", "1@8");
        program("p(count(_)):-q(1).", "1@8");
        program("p(count(X,Y)):-q(X,Y).", "1@9");
        program("p(is(X)):-q(X).", "1@2");
        program("p(-count(X)):-q(X).", "1@3");
        question("", "1@0");
        question("p(1)", "1@4");
        question("p(1).", "1@4");
        question("p(1)? ?", "1@6");
        question("?", "1@0");
        question("p(X):-p(X)?", "1@4");
        question("p(_)?", "1");
    }

    private static void tellsLimits() {
        program("p(1,2,3,4).", "0");
        program("p(1,2,3,4,5).", "1@10");
        program("p(1,2,3,4, ", "1@11");
        program("p(1):-q(1,2,3,4,_).", "1@16");
        program("p(1):-1=1,1=1,1=1,1=1,1=1,1=1.", "1");
        program("p(1):-1=1,1=1,1=1,1=1,1=1,1=1, q(1).", "1@31");
        program("p(1):-1=1,1=1,1=1,1=1,1=1,1=1,!q(1).", "1@30");
        program("p(1):-q(1),q(2),q(3).", "1");
        program("p(1):-q(1),q(2),q(3), q(4).", "1@22");
        program("p(1):-q(1),q(2),q(3),q(4). ~", "1@21");
        program("p(1):-1=1,1=1,1=1,1=1,1=1,1=1,q(1). ~", "1@30");
        program("p(1,2,3,4,q(1). ~", "1@10");
        program("p(1):-q q(1). ~", "1@8");
        program("p(1):-1=1 q(1). ~", "1@10");
        program("p(1) q(1). ~", "1@5");
        program("p q(1). ~", "1@2");
        program("p(X):-X is q(1). ~", "1@12");
        program("p(X):-X is 1+count q(1). ~", "1@13");
        program("p(count q(1). ~", "1@8");
        program("p(count(q(1)). ~", "1@8");
        program("p(1):-q(1),q(2),q(3),!q(4),!q(5),!q(6).", "1");
        program("p(1):-q(1),q(2),q(3),q=4.", "1");
        program("p(1):-q(A,B,C,D),r(E,F,G,H).", "1");
        program("p(I):-q(A,B,C,D),r(E,F,G,H).", "1@25");
        program("p(A):-q(A,B,C,D),r(E,F,G,H),I=A.", "1@28");
        program("p(A):-q(A,B,C,D),r(E,F,G,H),!q(A,B,C,J).", "1@37");
        question("q(A,B),q(C,D),q(E,F),G=1,H=2?", "1");
        question("q(A,B),q(C,D),q(E,F),G=1,H=2,I=3?", "1@29");
        program("p(X).", "1@2");
        program("p(1,X,count(Y)).", "1@4");
        program("p(count(Y),X).", "1@2");
        program("p(X). ~", "1@2");
        program("p(X) ~", "1@5");
        program("p(count(X),sum(X)):-q(X).", "1@11");
        program("p(count(X),sum(X)).", "1@11");
        program("p(count(X)):-q(X,_).", "1@17");
        program("p(count(X)):-q(X),!r(X,_).", "1");
        program("p(X):-q(X,_),!r(_,_).", "1");
    }

    private static void tellsArguments() {
        program("p(1).p(1,2).", "2@5");
        program("p(1):-p(1,2).", "2@6");
        program("p(1):-!q(1).q(1,2).q(1).", "2@12");
        program("p(1):-q(1),q(1,2),q(1).", "2@11");
        program("p(1).p(1,2). ~", "1@13");
        question("p(1,2)?", "2@0");
        question("p(1),!q(1)?", "2@6");
        question("p(1),s(1)?", "2@5");
        question("s(1),p(1", "1@8");
        question("p(1),1=s?", "0");
    }

    private static void tellsUnbound() {
        program("p(X):-q(Y).", "3@2");
        program("p(X):-!q(X).", "3@2");
        program("p(1):-!q(X).", "3@9");
        program("p(1):-q(Y),X<Y.", "3@11");
        program("p(X):-X=1.", "1");
        program("p(X):-1=X.", "1");
        program("p(X):-X=X.", "3@2");
        program("p(1):-!r(1,1,Z),X=1.", "3@13");
        program("p(X):-X=Y,Y=X.", "3@2");
        program("p(X):-X=Y,Y=Z,Z=a.", "1");
        program("p(X):-Z=Y,Y is W+1,q(W),X is Z*Y.", "1");
        program("p(X):-X is X+1.", "3@2");
        program("p(X):-X is Y+1,Y is X-1.", "3@2");
        program("p(X):-X!=1.", "3@2");
        program("p(X):-X is 1+Y,q(Z).", "3@2");
        program("p(X):-q(X),Z is 1+Y.", "3@11");
        program("p(1):-X is Y+1,q(Z).", "3@6");
        program("p(count(X)):-q(Y).", "3@8");
        program("p(sum(X)):-X=3.", "1");
        program("p(X,Y):-q(X).q(Y):-p(Y,Z),!q(W).", "3@4");
        question("X=1?", "1");
        question("X<1?", "3@0");
        question("p(Y),!q(X,Y)?", "3@8");
        question("p(X),X is X+0?", "1");
    }

    private static void tellsHanging() {
        program("p(X):-q(X),!p(X).", "4@11");
        program("p(X):-q(X),!r(X).r(X):-q(X),p(X).", "4@11");
        program("p(X):-q(X),!r(X).r(X):-q(X),!p(X).", "4@11");
        program("p(X):-q(X),r(X).r(X):-q(X),!p(X).", "4@27");
        program("p(X):-q(X),!r(X).r(X):-q(X),s(X).s(1):-!t(1).t(X):-p(X).", "4@11");
        program("p(X):-q(X),!r(X).r(X):-q(X).", "2");
        program("p(count(X)):-p(X).", "4@2");
        program("p(1,count(X)):-q(X).q(X):-p(X,_).", "4@4");
        program("p(count(X)):-q(X),!p(X).", "4@2");
        program("p(count(X)):-q(X),!r(X).r(X):-p(X).", "4@2");
        program("p(count(X)):-q(X),!r(X).r(X):-q(X).", "2");
        program("p(X):-q(X),!r(X),!p(X),!p(X).", "4@17");
        program("p(X):-p(X),q(X).q(X):-p(X).", "2");
        program("p(X):-q(X),!s(X).s(X):-s(X),!r(X).r(1):-r(2).", "3");
        program("a(X):-b(X),!a(X).c(X):-b(Y).", "3@19");
        program("a(X):-b(X),!a(X).b(1,2).", "2@17");
        program("p(X):-q(X). p(count(X)):-s(X). s(X):-t(X),!p(X).", "4@14");
    }

    private static void forgetsOldTexts() {
        RuleHouse house = new RuleHouse();
        Checks.same("a longer text", Checks.program(house, "p(1):-q(12)."), "1");
        Checks.same("its - is gone", Checks.program(house, "p(1):"), "1@4");
        Checks.same("its . is gone", Checks.program(house, "p(1):-q(12)"), "1@11");
        Checks.same("hanging", Checks.program(house, "a(X):-b(X). b(X):-a(X)."), "2");
        Checks.same("another one", Checks.program(house, ""), "0");
        Checks.same("hanging is forgotten", Checks.program(house, "b(X):-c(X),!c(1)."), "1");
    }

    private static void tellsFirst() {
        program("p(X):-q(Y).q(1,2).", "3@2");
        program("q(1).p(1):-q(1,2),!r(X).", "2@11");
        program("q(1).p(X):-q(1,2).", "3@7");
        program("q(1,2).p(1):-!r(X),q(1).", "3@16");
        program("p(X):-q(Y).q(1,2). :-", "1@19");
        program("p(X):-q(Y).p(Z):-q(Z),!p(Z).", "3@2");
        question("!q(1,X),p(1,2)?", "3@5");
        question("p(1,2),!q(1,X)?", "2@0");
    }
}
