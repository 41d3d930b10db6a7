/** Boundaries of the FAULTS 1 to 3, which goes ahead of which, and of promise 5, sentence by sentence. */
public final class FaultEdgeTest {
    public static void main(String[] args) {
        tellsNoneAsYet();
        tellsTheLatest();
        tellsNoneForOtherWhat();
        countsNoStateAsFault();
        readsOnToTheFirstThatIsMet();
        countsArguments();
        countsArgumentsOfKnownPredicates();
        tellsUnboundWhereItIsFirst();
        tellsTheFirstPlaceOfTwoAndThree();
        tellsOneAheadOfAllOthers();
        tellsFourOnlyWithoutOthers();
        Checks.finish();
    }

    /** "what 0: its kind (0 none, or no call as yet), 1: its place (0 without one)". */
    private static void tellsNoneAsYet() {
        RuleHouse house = new RuleHouse();
        Checks.same("kind", house.fault(0), 0);
        Checks.same("place", house.fault(1), 0);
        Checks.type(house, "~~~~");
        house.solve();
        house.total(5);
        house.predicate(0, 0);
        Checks.answer(house, 0, 0);
        Checks.tuple(house, 0, 0, 0);
        Checks.round(house, 0, 0);
        Checks.same("other calls tell none", Checks.faultOf(house), "0@0");
    }

    /** "The FAULT of the latest program(), fact(), ask()". */
    private static void tellsTheLatest() {
        String[] wrong = {"p(1)~", "p(1", "p(", "~"};
        String[] due = {"1@4", "1@3", "1@2", "1@0"};
        RuleHouse house = Edges.settled();
        for (int i = 0; i < wrong.length; i++) {
            Checks.same("program " + i, Checks.program(house, wrong[i]), due[i]);
            Checks.same("good FACT", Checks.fact(house, "p(1).", 1), "false");
            Checks.same("none behind it", Checks.faultOf(house), "0@0");
            Checks.same("fact " + i, Checks.fact(house, wrong[i], 0), due[i]);
            Checks.same("good QUESTION", Checks.ask(house, "p(1)?"), "1");
            Checks.same("none behind it", Checks.faultOf(house), "0@0");
            Checks.same("ask " + i, Checks.ask(house, wrong[i]), due[i]);
            Checks.same("other calls leave it", Checks.solve(house) + Checks.answer(house, 9, 9), "7none");
            Checks.type(house, "p(1).");
            Checks.same("it is still told", Checks.faultOf(house), due[i]);
            Checks.same("another how is FAULT 0", Checks.fact(house, "", 2) + Checks.faultOf(house), "0@00@0");
            Checks.same("ask " + i, Checks.ask(house, wrong[i]), due[i]);
            Checks.same("good PROGRAM", Checks.program(house, "p(1)."), "0");
            Checks.same("none behind it", Checks.faultOf(house), "0@0");
            house = Edges.settled();
        }
    }

    /** "NONE for another what". */
    private static void tellsNoneForOtherWhat() {
        RuleHouse house = new RuleHouse();
        int[] others = {-1, 2, 3, 4, 100, Integer.MIN_VALUE, Integer.MAX_VALUE};
        for (int what : others) {
            Checks.same("none as yet, what " + what, house.fault(what), RuleHouse.NONE);
        }
        Checks.program(house, "p(1)~");
        for (int what : others) {
            Checks.same("with a FAULT, what " + what, house.fault(what), RuleHouse.NONE);
        }
        Checks.same("0 and 1 tell it", Checks.faultOf(house), "1@4");
    }

    /** "(an IllegalStateException is none)". */
    private static void countsNoStateAsFault() {
        RuleHouse house = Checks.house("p(1).");
        Checks.same("a FAULT", Checks.ask(house, "p(1,2)?"), "2@0");
        Checks.same("no MODEL", Checks.ask(house, "p(1)?"), "state");
        Checks.same("that is none", Checks.faultOf(house), "0@0");
        house = Checks.solved("p(0).n(0).n(Y):-n(X),Y is X+1,Y<199.");
        Checks.same("a FAULT", Checks.ask(house, "p(1,2)?"), "2@0");
        Checks.same("more than 200 answers", Checks.ask(house, "n(X),n(Y)?"), "state");
        Checks.same("that is none", Checks.faultOf(house), "0@0");
    }

    /** "A text is read on to the first that is met". */
    private static void readsOnToTheFirstThatIsMet() {
        Edges.programRefused(1, "p(1)^~~");
        Edges.programRefused(1, "p(^~.q(abcdefg).");
        Edges.programRefused(1, "p(1,2,3,4,^5,6):-q(1,2,3,4,5).");
        Edges.programRefused(1, "p(^_):-1=1,1=1,1=1,1=1,1=1,1=1,1=1.");
        Edges.programRefused(1, "p(1):-q(1),q(1),q(1),^q(1),q(1,2,3,4,5).");
        Edges.programRefused(1, "p(^X).q(Y).");
        Edges.programRefused(1, "p(X):-q(_^x).");
        Edges.factRefused(1, "p(^~)~");
        Edges.questionRefused(1, "p(^~)~");
    }

    /** "2 a NAME of an ATOM or HEAD with another number of ARGUMENTS than where it was first". */
    private static void countsArguments() {
        Edges.programTaken(0, "p(1,2).p(3,4).");
        Edges.programRefused(2, "p(1,2).^p(3).");
        Edges.programRefused(2, "p(1,2).^p(3,4,5).");
        Edges.programRefused(2, "p(1).^p(1,2,3,4).");
        Edges.programRefused(2, "p(1,2,3,4).^p(1,2,3).");
        Edges.programRefused(2, "p(1):-^p(1,2).");
        Edges.programRefused(2, "p(1):-q(1),!^q(1,2).");
        Edges.programRefused(2, "p(1):-!q(1),^q(1,2).");
        Edges.programRefused(2, "p(1):-q(1).^q(1,2).");
        Edges.programRefused(2, "p(1):-q(1).   ^q(1,2):-p(1).");
        Edges.programRefused(2, "p(1):-!q(_,_).^q(1).");
        Edges.programRefused(2, "p(1,2).^p(count(X)):-q(X).");
        Edges.programRefused(2, "p(1,2).q(1):-p(1,2),^p(1),p(1,2,3).");
        // The first one holds, not the latest or the most frequent one.
        Edges.programRefused(2, "p(1).^p(1,2).p(1,2).p(1,2).");
        Edges.programRefused(2, "p(1).p(2).^p(1,2).p(1).");
        // A SYMBOL of the same letters is no ATOM.
        Edges.programTaken(1, "p(q).q(1,2):-p(p),p=q.");
        // What an earlier text said does not count.
        RuleHouse house = Checks.house("p(1,2).");
        Checks.same("another number", Checks.program(house, "p(1)."), "0");
        Checks.same("a FAULT", Checks.program(house, "q(1).q(1,2)."), "2@5");
        Checks.same("it said nothing", Checks.program(house, "q(1,2)."), "0");
    }

    /** "2 also: there is no such predicate". */
    private static void countsArgumentsOfKnownPredicates() {
        Edges.factTaken("q(7,8).");
        Edges.factRefused(2, "^q(7).");
        Edges.factRefused(2, " ^q(7,8,9).");
        Edges.factRefused(2, "^z(1).");
        Edges.factRefused(2, "^pp(1).");
        Edges.factRefused(2, "^t(1).");
        Edges.questionTaken("1: 2", "q(1,X)?");
        Edges.questionRefused(2, "^q(X)?");
        Edges.questionRefused(2, "^q(X,Y,Z)?");
        Edges.questionRefused(2, "p(X),!^q(X)?");
        Edges.questionRefused(2, "^z(X)?");
        Edges.questionRefused(2, "p(X),!^z(X)?");
        Edges.questionRefused(2, "p(X),^z(X),q(X)?");
        Edges.questionRefused(2, "p(X),^q(X),z(X)?");
        Edges.questionRefused(2, "^z(1),z(1,2)?");
        Edges.questionTaken("0: ", "p(z)?");
        // On a new object there is none.
        Checks.same("fact", Checks.fact(new RuleHouse(), "  p(1).", 1), "2@2");
        Checks.same("ask", Checks.ask(new RuleHouse(), "1=1,p(1)?"), "2@4");
    }

    /** "3 a VARIABLE that is not BOUND, where it is first in its CLAUSE (or QUESTION)". */
    private static void tellsUnboundWhereItIsFirst() {
        Edges.programRefused(3, "p(^X):-q(Y),X<Y.");
        Edges.programRefused(3, "p(1):-q(Y),Y<^X,X<Y.");
        Edges.programRefused(3, "p(1):-!q(^X,Y),X<Y.");
        Edges.programRefused(3, "p(Y,^X,Z):-q(Y).");
        Edges.programRefused(3, "p(count(^X)):-q(Y),X<Y.");
        Edges.programRefused(3, "p(^X,count(X)):-q(Y).");
        Edges.programRefused(3, "p(X):-q(X).p(^Y):-q(X).");
        Edges.programRefused(3, "p(X):-q(X).p(1):-q(1),!r(^X).");
        Edges.programRefused(3, "p(^X):-q(Y).p(Z):-q(Y).");
        Edges.programRefused(3, "p(1):-^X is Y+1.");
        Edges.programRefused(3, "p(1):-q(X),X is ^Y+1.");
        Edges.programRefused(3, "p(1):-^X=Y.");
        Edges.questionRefused(3, "^X<1?");
        Edges.questionRefused(3, "p(X),!q(X,^Y),Y>X?");
        Edges.questionRefused(3, "1<^X,p(Y),Z<X?");
    }

    /** "Else the first one in the order of places". */
    private static void tellsTheFirstPlaceOfTwoAndThree() {
        Edges.programRefused(3, "p(^X):-q(1).q(1,2).");
        Edges.programRefused(2, "q(1).^q(1,2).p(X):-q(1).");
        Edges.programRefused(3, "q(1).p(^X):-q(1,2).");
        Edges.programRefused(2, "q(1).p(1):-^q(1,2),!r(X).");
        Edges.programRefused(3, "q(1).p(1):-!r(^X),q(1,2).");
        Edges.programRefused(2, "q(1).^q(X,2):-r(1).");
        Edges.programRefused(2, "q(1).^q(1,2).q(1,2,3).");
        Edges.programRefused(3, "p(^X,Y):-q(1).");
        Edges.questionRefused(3, "^X<1,q(1)?");
        Edges.questionRefused(2, "^q(1),X<1?");
        Edges.questionRefused(3, "!p(^X),z(1)?");
        Edges.questionRefused(2, "!^p(X,1),z(1)?");
        Edges.questionRefused(2, "!^z(X)?");
    }

    private static void tellsOneAheadOfAllOthers() {
        Edges.programRefused(1, "q(1).q(1,2).p(1)^");
        Edges.programRefused(1, "p(X):-q(Y).^~");
        Edges.programRefused(1, "p(X):-q(X),!p(X).^~");
        Edges.programRefused(1, "p(X):-q(Y).p(^Z).");
        Edges.factRefused(1, "z(1)^");
        Edges.factRefused(1, "q(1)^?");
        Edges.factRefused(1, "q(1).^q(1,2).");
        Edges.questionRefused(1, "z(1)^");
        Edges.questionRefused(1, "q(1),X<1^.");
        Edges.questionRefused(1, "X<1?^?");
    }

    /** "4 (if there is none of 2, 3)". */
    private static void tellsFourOnlyWithoutOthers() {
        Edges.programRefused(4, "p(X):-q(X),^!p(X).");
        Edges.programRefused(3, "p(X):-q(X),!p(X).r(^Y):-q(1).");
        Edges.programRefused(2, "p(X):-q(X),!p(X).^q(1,2).");
        Edges.programRefused(3, "p(1):-!p(^X).");
        Edges.programRefused(2, "p(1):-!^p(1,2).");
        Edges.programRefused(3, "p(count(X)):-p(X).r(^Y):-p(1).");
    }
}
