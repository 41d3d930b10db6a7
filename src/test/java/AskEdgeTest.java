import java.util.NoSuchElementException;

/** Boundaries of promises 7 and 8, sentence by sentence. */
public final class AskEdgeTest {
    private static final String UP = "n(0).n(Y):-n(X),Y is X+1,Y<";

    public static void main(String[] args) {
        answersWithoutVariables();
        answersEachOnce();
        answersWithNone();
        refusesFaults();
        refusesWithoutAModel();
        answersTwoHundred();
        refusesMoreThanTwoHundred();
        answersFiveHundred();
        countsQuestionsOfAllPrograms();
        tellsAnswers();
        tellsNoAnswerBeyond();
        keepsAnswersTillAnother();
        Checks.finish();
    }

    /** "without VARIABLES one without VALUES, if it holds". */
    private static void answersWithoutVariables() {
        RuleHouse house = Edges.settled();
        Checks.same("it holds", Checks.ask(house, "p(1)?"), "1");
        Checks.same("VARIABLES, answers", house.total(0) + " " + house.total(1), "0 1");
        Checks.same("no VALUE", Checks.answer(house, 0, 0), "none");
        Checks.same("it does not hold", Checks.ask(house, "p(2)?"), "0");
        Checks.same("VARIABLES, answers", house.total(0) + " " + house.total(1), "0 0");
        Checks.same("in many ways", Checks.ask(house, "p(_),q(_,_),r(_)?"), "1");
        Checks.same("in no way", Checks.ask(house, "p(_),!q(_,_)?"), "0");
        Checks.same("without ATOMS", Checks.ask(house, "1<2?"), "1");
        Checks.same("without ATOMS, not", Checks.ask(house, "2<1?"), "0");
        Checks.same("in the empty MODEL", Checks.ask(new RuleHouse(), "1<2?"), "1");
        Checks.same("in the empty MODEL, not", Checks.ask(new RuleHouse(), "2<1?"), "0");
        Checks.same("a VALUE in the empty MODEL", Checks.answers(new RuleHouse(), "X is 1-2?"), "1: -1");
    }

    /** "with which it holds in the MODEL, each once, in order". */
    private static void answersEachOnce() {
        Edges.questionTaken("2: 1 a", "p(X),q(_,_)?");
        Edges.questionTaken("2: 1 a", "p(X),p(X)?");
        Edges.questionTaken("4: 1,1 1,a a,1 a,a", "p(X),p(Y)?");
        Edges.questionTaken("2: 1,2 a,b", "q(X,Y)?");
        Edges.questionTaken("2: 2,1 b,a", "Y=Y,q(X,Y)?");
        Edges.questionTaken("1: 5,5", "X=5,Y=X,p(_)?");
        // More than 200 ways, but few answers.
        RuleHouse house = Checks.solved(UP + "100.");
        Checks.same("a million ways", Checks.ask(house, "n(X),n(_),n(_)?"), "100");
        Checks.same("none", Checks.ask(house, "n(100)?"), "0");
        Checks.same("the same first VALUE", Checks.answers(house, "X is Y*0,n(Y),Y<3?"), "3: 0,0 0,1 0,2");
    }

    private static void answersWithNone() {
        RuleHouse house = Edges.settled();
        Checks.same("none", Checks.ask(house, "q(X,Y),X=Y?"), "0");
        Checks.same("VARIABLES, answers", house.total(0) + " " + house.total(1), "2 0");
        Checks.same("no answer", Checks.answer(house, 0, 0), "none");
    }

    /** "IllegalArgumentException: a FAULT, 1, 2 (2 also: there is no such predicate), 3". */
    private static void refusesFaults() {
        Edges.questionRefused(1, "^");
        Edges.questionRefused(1, "p(1)^.");
        Edges.questionRefused(2, "^p(1,2)?");
        Edges.questionRefused(2, "^z(1)?");
        Edges.questionRefused(3, "p(X),X<^Y?");
        // Nothing hangs on a QUESTION, so there is no 4.
        Edges.questionTaken("2: 1 a", "p(X),!p(2),!r(2)?");
    }

    /** "IllegalStateException, with a good one: there is no MODEL". */
    private static void refusesWithoutAModel() {
        RuleHouse house = Edges.settled();
        Checks.fact(house, "p(2).", 1);
        String before = Checks.everything(house);
        Checks.same("behind fact()", Checks.ask(house, "p(X)?"), "state");
        Checks.same("no FAULT", Checks.faultOf(house), "0@0");
        Edges.stays("behind fact()", house, before);
        Checks.same("without ATOMS, too", Checks.ask(house, "1=1?"), "state");
        Checks.same("FAULT 1 goes ahead", Checks.ask(house, "p(X)"), "1@4");
        Checks.same("FAULT 2 goes ahead", Checks.ask(house, "z(X)?"), "2@0");
        Checks.same("FAULT 3 goes ahead", Checks.ask(house, "X<1?"), "3@0");
        Checks.solve(house);
        Checks.same("with one", Checks.answers(house, "p(X)?"), "3: 1 2 a");
        Checks.program(house, "");
        Checks.same("behind program()", Checks.ask(house, "1=1?"), "state");
        Checks.same("answers stay", Checks.toldAnswers(house), "1 2 a");
        Checks.solve(house);
        Checks.same("with one", Checks.ask(house, "1=1?"), "1");
    }

    private static void answersTwoHundred() {
        RuleHouse house = Checks.solved(UP + "200.");
        Checks.same("200 of one VARIABLE", Checks.ask(house, "n(X)?"), "200");
        Checks.same("the last one", Checks.answer(house, 199, 0), "199");
        Checks.same("none behind it", Checks.answer(house, 200, 0), "none");
        Checks.same("200 of two", Checks.ask(house, "n(X),n(Y),X<2,Y<100?"), "200");
        Checks.same("the last one", Checks.answer(house, 199, 0) + " " + Checks.answer(house, 199, 1), "1 99");
        Checks.same("200 of five", Checks.ask(house, "n(A),B=A,C=B,D=A,n(E),A is E+0?"), "200");
        Checks.same("200 of three", Checks.ask(house, "n(X),n(Y),n(Z),X<10,Y<10,Z<2?"), "200");
    }

    /** "or there are more than 200 answers (what was answered before stays ..". */
    private static void refusesMoreThanTwoHundred() {
        String pairs = "n(X),n(Y),A is X*15,B is A+Y,";
        RuleHouse house = Checks.solved(UP + "15.a(1).a(2).a(3).");
        Checks.ask(house, "a(X)?");
        Checks.same("a FAULT", Checks.program(house, "~"), "1@0");
        String before = Checks.everything(house);
        Checks.same("201", Checks.ask(house, pairs + "B<=200?"), "state");
        Checks.same("no FAULT", Checks.faultOf(house), "0@0");
        Edges.stays("201", house, before);
        house = Checks.solved(UP + "15.a(1).a(2).a(3).");
        Checks.same("200", Checks.ask(house, pairs + "B<200?"), "200");
        Checks.same("201 of others", Checks.ask(house, "n(Q),n(R),S is Q*15,T is S+R,T>23?"), "state");
        Checks.same("far more", Checks.ask(house, "n(X),n(Y),n(Z)?"), "state");
        Checks.same("200 stay", house.total(0) + " " + house.total(1), "4 200");
        Checks.same("the first one stays", Checks.answer(house, 0, 3), "0");
        Checks.same("the last one stays", Checks.answer(house, 199, 3), "199");
        Checks.same("200 of others", Checks.ask(house, "n(Q),n(R),S is Q*15,T is S+R,T>24?"), "200");
        Checks.same("another one", Checks.answers(house, "a(X)?"), "3: 1 2 3");
    }

    /** "500 QUESTIONS have been answered .. it does not count among the 500". Beyond 512 calls, as it must be. */
    private static void answersFiveHundred() {
        RuleHouse house = Checks.solved(UP + "67.a(1).a(2).a(3).");
        for (int i = 1; i <= 499; i++) {
            Checks.same("QUESTION " + i, Checks.ask(house, i % 2 == 0 ? "a(X)?" : "a(4)?"), i % 2 == 0 ? "3" : "0");
        }
        Checks.same("more than 200 answers", Checks.ask(house, "a(X),n(Y)?"), "state");
        Checks.same("a FAULT", Checks.ask(house, "a(X),n(Y)"), "1@9");
        Checks.fact(house, "a(4).", 1);
        Checks.same("no MODEL", Checks.ask(house, "a(4)?"), "state");
        Checks.solve(house);
        Checks.same("the 500th", Checks.answers(house, "a(X)?"), "4: 1 2 3 4");
        Checks.same("the 501st", Checks.ask(house, "a(4)?"), "state");
        Checks.same("no FAULT", Checks.faultOf(house), "0@0");
        Edges.tapeIsEmpty("the 501st", house);
        Checks.same("answers stay", Checks.toldAnswers(house), "1 2 3 4");
        Checks.same("FAULT 1 goes ahead", Checks.ask(house, "a(4)"), "1@4");
        Checks.same("FAULT 2 goes ahead", Checks.ask(house, "z(4)?"), "2@0");
        Checks.same("FAULT 3 goes ahead", Checks.ask(house, "X<1?"), "3@0");
    }

    /** "the 40 MODELS and 500 QUESTIONS below are of all PROGRAMS together". Beyond 512 calls, too. */
    private static void countsQuestionsOfAllPrograms() {
        RuleHouse house = Checks.solved("a(1).");
        for (int i = 1; i <= 250; i++) {
            Checks.same("QUESTION " + i, Checks.ask(house, "a(X)?"), "1");
        }
        Checks.program(house, "b(1).b(2).");
        Checks.solve(house);
        for (int i = 251; i <= 500; i++) {
            Checks.same("QUESTION " + i, Checks.ask(house, "b(X)?"), "2");
        }
        Checks.same("the 501st", Checks.ask(house, "b(X)?"), "state");
        Checks.program(house, "c(1).");
        Checks.solve(house);
        Checks.same("nor of another PROGRAM", Checks.ask(house, "c(X)?"), "state");
        Checks.same("answers stay", Checks.toldAnswers(house), "1 2");
    }

    /** "a number, or the letters of a SYMBOL (the lowest bytes, the last one lowest, plus 2 to the 56th)". */
    private static void tellsAnswers() {
        RuleHouse house = Checks.solved("v(a).v(z).v(ab).v(a0).v(abcdef).v(z99999).v(0).v(-1).v(1).v(999999999)."
                + "v(X):-A is 999999999*2,X is A+147483649.v(X):-A is 999999999*2,X is A+147483650.");
        long plus = 72057594037927936L;
        long[] due = {-2147483648L, -1, 0, 1, 999999999, 2147483647L, plus + 0x61, plus + 0x6130, plus + 0x6162,
            plus + 0x616263646566L, plus + 0x7a, plus + 0x7a3939393939L};
        Checks.same("answers", Checks.ask(house, "v(X),Y=X?"), due.length);
        for (int i = 0; i < due.length; i++) {
            Checks.same("answer " + i, house.answer(i, 0), due[i]);
            Checks.same("of the second VARIABLE " + i, house.answer(i, 1), due[i]);
            Checks.same("tuple " + i, house.tuple(0, i, 0), due[i]);
        }
    }

    /** "NoSuchElementException: there is none such". */
    private static void tellsNoAnswerBeyond() {
        int[] far = {-1, -2, 3, 8, 200, 201, Integer.MIN_VALUE, Integer.MAX_VALUE};
        RuleHouse fresh = new RuleHouse();
        Checks.same("no QUESTION as yet", Checks.answer(fresh, 0, 0), "none");
        RuleHouse house = Checks.solved("q(1,2).q(3,4).q(5,6).");
        Checks.same("a MODEL, no QUESTION as yet", Checks.answer(house, 0, 0), "none");
        Checks.ask(house, "q(X,Y)?");
        Checks.same("the first one", Checks.answer(house, 0, 0), "1");
        Checks.same("the last one", Checks.answer(house, 2, 1), "6");
        Checks.same("i one more", Checks.answer(house, 3, 0), "none");
        Checks.same("k one more", Checks.answer(house, 0, 2), "none");
        Checks.same("k one more of the last", Checks.answer(house, 2, 2), "none");
        for (int one : far) {
            Checks.same("far i " + one, Checks.answer(house, one, 0), "none");
            Checks.same("far k " + one, Checks.answer(house, 0, one), "none");
            Checks.same("both far " + one, Checks.answer(house, one, one), "none");
        }
        String thrown = "nothing";
        try {
            house.answer(3, 0);
        } catch (NoSuchElementException e) {
            thrown = e.getClass().getName();
        }
        Checks.same("thrown", thrown, "java.util.NoSuchElementException");
    }

    /** "answers to the latest QUESTION stay, whatever changes, till another one is answered". */
    private static void keepsAnswersTillAnother() {
        RuleHouse house = Checks.solved("p(1).p(b).");
        Checks.ask(house, "p(X)?");
        String[] asked = {"p(X", "p(X,Y)?", "z(1)?", "Y<1?"};
        for (String text : asked) {
            Checks.ask(house, text);
            Checks.same("behind " + text, Checks.toldAnswers(house), "1 b");
        }
        Checks.fact(house, "p(b).", 0);
        Checks.same("behind fact()", Checks.toldAnswers(house), "1 b");
        Checks.ask(house, "p(X)?");
        Checks.same("behind ask() without a MODEL", Checks.toldAnswers(house), "1 b");
        Checks.solve(house);
        Checks.same("behind solve()", Checks.toldAnswers(house), "1 b");
        Checks.program(house, "~");
        Checks.program(house, UP + "201.");
        Checks.same("behind program()", Checks.toldAnswers(house), "1 b");
        Checks.solve(house);
        Checks.same("behind TOO MANY", Checks.toldAnswers(house), "1 b");
        Checks.program(house, "");
        Checks.solve(house);
        Checks.same("without predicates", Checks.toldAnswers(house), "1 b");
        Checks.same("another one", Checks.answers(house, "1=2?"), "0: ");
        Checks.same("theirs are gone", house.total(0) + " " + house.total(1), "0 0");
        Checks.same("none", Checks.answer(house, 0, 0), "none");
    }
}
