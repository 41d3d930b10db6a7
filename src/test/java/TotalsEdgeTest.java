/** Boundaries of what the TOTALS reckon, sentence by sentence. */
public final class TotalsEdgeTest {
    private static final String LIMITS = "q(L):-A is 999999999*2,L is A+147483650."
            + "q(H):-A is 999999999*2,H is A+147483649.";

    public static void main(String[] args) {
        givesNothingWithoutAWay();
        countsWays();
        sumsNumbers();
        wrapsSums();
        takesTheFirstAndTheLast();
        givesOneTupleToEachGroup();
        looksAtSixLiterals();
        countsBeyondTwoHundred();
        Checks.finish();
    }

    /** "(without any way there is no TUPLE)". */
    private static void givesNothingWithoutAWay() {
        String[] words = {"count", "sum", "least", "most"};
        for (String word : words) {
            Edges.model("c(" + word + "(X)):-q(X).", "");
            Edges.model("c(" + word + "(X)):-q(X),X>9.q(1).q(9).", "");
            Edges.model("c(" + word + "(X)):-q(X),1=2.q(1).", "");
            Edges.model("c(" + word + "(X)):-X=1,1=2.", "");
            Edges.model("c(" + word + "(X)):-q(X),!r(_).q(1).r(1).", "");
            Edges.model("c(7," + word + "(X)):-q(X),r(X).q(1).r(2).", "");
            Edges.model("c(Y," + word + "(X)):-q(X,Y),Y>1.q(1,1).", "");
            Edges.model("c(" + word + "(X)):-q(Y),X is Y/0.q(1).", "");
            // Its FACTS are there all the same.
            Edges.model("c(5).c(" + word + "(X)):-q(X).", "5:0");
            // With one way there is one.
            Edges.model("c(" + word + "(X)):-q(X).q(1).", "1:1");
            Edges.model("c(" + word + "(X)):-X=1.", "1:1");
        }
    }

    /** "over all the ways in which the BODY holds (VALUES of all its VARIABLES): count how many ways". */
    private static void countsWays() {
        Edges.model("c(count(X)):-q(X).q(5).", "1:1");
        Edges.model("c(count(X)):-q(X).q(5).q(a).q(-7).", "3:1");
        // Ways, not VALUES of the VARIABLE.
        Edges.model("c(count(X)):-q(X,Y).q(1,1).q(1,2).q(1,3).", "3:1");
        Edges.model("c(count(X)):-q(X),r(Y).q(1).r(1).r(2).r(3).", "3:1");
        Edges.model("c(count(X)):-q(X),q(Y),q(Z).q(1).q(2).q(3).", "27:1");
        // The same VALUES are one way, however many ATOMS ask.
        Edges.model("c(count(X)):-q(X),q(X),q(X).q(1).q(2).", "2:1");
        Edges.model("c(count(X)):-q(X,Y),q(X,Y).q(1,1).q(1,2).", "2:1");
        Edges.model("c(count(X)):-q(X),1=1,X=X.q(1).q(2).", "2:1");
        // What is absent with anything for _ makes no ways.
        Edges.model("c(count(X)):-q(X),!r(_,X).q(1).q(2).q(3).r(1,3).r(2,3).", "2:1");
        // What is reckoned adds none.
        Edges.model("c(count(X)):-q(X),Y is X*0.q(1).q(2).", "2:1");
        Edges.model("c(count(Y)):-q(X),Y is X*0.q(1).q(2).", "2:1");
    }

    /** "sum the sum of the VARIABLE's numbers in them (.. SYMBOLS count nothing)". */
    private static void sumsNumbers() {
        Edges.model("c(sum(X)):-q(X).q(5).", "5:1");
        Edges.model("c(sum(X)):-q(X).q(5).q(-5).", "0:1");
        Edges.model("c(sum(X)):-q(X).q(-5).q(-6).", "-11:1");
        Edges.model("c(sum(X)):-q(X).q(0).", "0:1");
        // The same number in two ways counts twice.
        Edges.model("c(sum(X)):-q(X,Y).q(5,1).q(5,2).", "10:1");
        Edges.model("c(sum(X)):-q(X,Y).q(5,1).q(a,2).q(b,3).q(6,4).", "11:1");
        Edges.model("c(sum(X)):-q(X).q(a).q(5).", "5:1");
        Edges.model("c(sum(X)):-q(X).q(a).", "0:1");
        Edges.model("c(sum(X)):-q(X).q(a).q(b).q(zzzzzz).", "0:1");
        Edges.model("c(Y,sum(X)):-q(X,Y).q(a,1).q(3,2).", "1,0:1 2,3:1");
    }

    /** "(wrapping ..". */
    private static void wrapsSums() {
        Edges.model("c(sum(X)):-q(X)." + LIMITS, "-1:1");
        Edges.model("c(sum(X)):-q(X),X<0." + LIMITS, "-2147483648:1");
        Edges.model("c(sum(X)):-q(X),X>0." + LIMITS, "2147483647:1");
        Edges.model("c(sum(X)):-q(X),X>0.q(1)." + LIMITS, "-2147483648:1");
        Edges.model("c(sum(X)):-q(X),X<0.q(-1)." + LIMITS, "2147483647:1");
        Edges.model("c(sum(X)):-q(X),r(Y),X>0.r(1).r(2)." + LIMITS, "-2:1");
        Edges.model("c(sum(X)):-q(X),r(Y),X<0.r(1).r(2)." + LIMITS, "0:1");
        Edges.model("c(sum(X)):-q(X),r(Y),X<0.r(1).r(2).r(3)." + LIMITS, "-2147483648:1");
        Edges.model("c(sum(X)):-q(X).q(999999999).q(999999998).q(147483650).", "2147483647:1");
        Edges.model("c(sum(X)):-q(X).q(999999999).q(999999998).q(147483651).", "-2147483648:1");
        // It wraps back, too.
        Edges.model("c(sum(X)):-q(X).q(999999999).q(999999998).q(147483651).q(-1).", "2147483647:1");
        // least and most do not wrap.
        Edges.model("c(least(X)):-q(X).q(0)." + LIMITS, "-2147483648:1");
        Edges.model("c(most(X)):-q(X).q(0)." + LIMITS, "2147483647:1");
    }

    /** "least, most the first and last VALUE in order". */
    private static void takesTheFirstAndTheLast() {
        String mixed = "q(b).q(3).q(a).q(-2).q(ab).q(0).q(a0).";
        Edges.model("c(least(X)):-q(X)." + mixed, "-2:1");
        Edges.model("c(most(X)):-q(X)." + mixed, "b:1");
        Edges.model("c(most(X)):-q(X),X<a." + mixed, "3:1");
        Edges.model("c(least(X)):-q(X),X>3." + mixed, "a:1");
        Edges.model("c(least(X)):-q(X),X>a." + mixed, "a0:1");
        Edges.model("c(most(X)):-q(X),X<b." + mixed, "ab:1");
        Edges.model("c(least(X)):-q(X).q(a).", "a:1");
        Edges.model("c(most(X)):-q(X).q(a).", "a:1");
        Edges.model("c(least(X)):-q(X,Y).q(3,1).q(3,2).", "3:1");
        Edges.model("c(most(X)):-q(X)." + LIMITS + "q(a).", "a:1");
    }

    /** "for all VALUES of the HEAD's other TERMS that come up one TUPLE". */
    private static void givesOneTupleToEachGroup() {
        Edges.model("c(X,count(Y)):-q(X,Y).q(1,1).q(1,2).q(2,1).q(a,7).", "1,2:1 2,1:1 a,1:1");
        Edges.model("c(count(Y),X):-q(X,Y).q(1,1).q(1,2).q(2,1).q(a,7).", "1,2:1 1,a:1 2,1:1");
        Edges.model("c(X,Z,count(Y)):-q(X,Y,Z).q(1,1,1).q(1,2,1).q(1,2,2).", "1,1,2:1 1,2,1:1");
        Edges.model("c(X,X,sum(X),X):-q(X).q(2).q(3).q(a).", "2,2,2,2:1 3,3,3,3:1 a,a,0,a:1");
        Edges.model("c(7,count(Y),a):-q(Y).q(1).q(2).", "7,2,a:1");
        // Without other TERMS there is one group.
        Edges.model("c(sum(Y)):-q(X,Y).q(1,1).q(2,2).q(a,3).", "6:1");
        // Groups of the same TOTAL are different TUPLES, and the same TUPLE of two RULES is one.
        Edges.model("c(X,count(Y)):-q(X,Y).c(X,sum(Y)):-q(X,Y).q(1,1).q(2,1).q(3,5).",
                "1,1:1 2,1:1 3,1:1 3,5:1");
        // A VALUE of 0 beside the TOTAL, ahead of it and behind.
        Edges.model("c(X,count(Y),0):-q(X,Y).q(0,0).q(0,1).q(1,0).", "0,2,0:1 1,1,0:1");
    }

    /** With six LITERALS no way is left out, whatever the VARIABLE's VALUE is. */
    private static void looksAtSixLiterals() {
        String facts = "q(0,1).q(0,2).q(0,0).q(1,1).";
        String more = ",1=1,2=2,3=3,4=4,5=5.";
        Edges.model("c(count(X)):-q(X,Y)" + more + facts, "4:1");
        Edges.model("c(sum(Y)):-q(X,Y)" + more + facts, "4:1");
        Edges.model("c(X,count(Y)):-q(X,Y)" + more + facts, "0,3:1 1,1:1");
        Edges.model("c(count(X)):-q(X,Y),q(Z,Y),!q(X,7),X<=Z,W is X+Z,W<2." + facts, "4:1");
        Edges.programRefused(1, "c(count(X)):-q(X,Y),1=1,2=2,3=3,4=4,5=5,^6=6.");
    }

    /** Ways are not TUPLES: there may be more than 200 of them. */
    private static void countsBeyondTwoHundred() {
        String up = "n(0).n(Y):-n(X),Y is X+1,Y<";
        Edges.model("c(count(X)):-n(X),n(Y)." + up + "15.", "225:1");
        Edges.model("c(count(X)):-n(X),n(Y),n(Z)." + up + "20.", "8000:1");
        Edges.model("c(sum(X)):-n(X),n(Y)." + up + "100.", "495000:1");
        Edges.model("c(count(X)):-n(X)." + up + "199.", "199:1");
        Edges.model("c(X,count(Y)):-n(X),n(Y)." + up + "3.", "0,3:1 1,3:1 2,3:1");
    }
}
