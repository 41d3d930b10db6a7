/** Boundaries of what is BOUND, sentence by sentence; where it is, that it has its VALUE, too. */
public final class BoundEdgeTest {
    public static void main(String[] args) {
        bindsByAtoms();
        bindsByIs();
        bindsByEquals();
        bindsAgainAndAgain();
        testsWhatIsBoundOtherwise();
        asksAllOfAFact();
        Checks.finish();
    }

    /** "BOUND are the VARIABLES of ATOMS without !". */
    private static void bindsByAtoms() {
        Edges.model("p(A,B,C,D):-q(A,B,C,D).q(1,2,3,4).", "1,2,3,4:1");
        Edges.model("p(X):-!r(X),q(X).q(1).q(2).r(2).", "1:1");
        Edges.model("p(X):-X<2,q(X).q(1).q(2).", "1:1");
        Edges.programRefused(3, "p(^X):-!q(X).");
        Edges.programRefused(3, "p(1):-!q(^X).");
        Edges.programRefused(3, "p(1):-q(1),!r(1,^X,Y).");
        Edges.programRefused(3, "p(^X):-q(_).");
        String[] relations = {"!=", "<", "<=", ">", ">="};
        for (String sign : relations) {
            Edges.programRefused(3, "p(^X):-X" + sign + "1.");
            Edges.programRefused(3, "p(^X):-1" + sign + "X.");
            Edges.programRefused(3, "p(1):-q(Y),Y" + sign + "^X.");
            Edges.questionRefused(3, "^X" + sign + "1?");
        }
        Edges.programRefused(3, "p(count(^X)):-!q(X).");
        Edges.questionRefused(3, "!p(^X)?");
        Edges.questionTaken("2: 1 a", "!q(X,X),p(X)?");
    }

    /** "again and again, that of is, if those behind it are". */
    private static void bindsByIs() {
        Edges.model("p(X):-X is 3+4.", "7:1");
        Edges.model("p(X):-q(Y),X is Y+4.q(3).", "7:1");
        Edges.model("p(X):-q(Y),X is 4+Y.q(3).", "7:1");
        Edges.model("p(X):-q(Y),X is Y*Y.q(3).", "9:1");
        Edges.programRefused(3, "p(^X):-X is Y+1.");
        Edges.programRefused(3, "p(^X):-X is 1+Y.");
        Edges.programRefused(3, "p(^X):-q(Y),X is Y+Z.");
        Edges.programRefused(3, "p(^X):-q(Y),X is Z+Y.");
        Edges.programRefused(3, "p(^X):-X is X+1.");
        Edges.programRefused(3, "p(1):-^X is 1-X.");
        // Those behind it are not BOUND by it.
        Edges.programRefused(3, "p(1):-q(X),X is ^Y+1.");
        Edges.programRefused(3, "p(1):-7 =X,X is 3+^Y.");
        Edges.questionTaken("1: 7", "X is 3+4?");
        Edges.questionRefused(3, "^X is Y+4?");
    }

    /** "and one side of =, if the other one is no VARIABLE, or is BOUND". */
    private static void bindsByEquals() {
        Edges.model("p(X):-X=3.", "3:1");
        Edges.model("p(X):-3=X.", "3:1");
        Edges.model("p(X):-X= -3.", "-3:1");
        Edges.model("p(X):-a=X.", "a:1");
        Edges.model("p(X):-q(Y),X=Y.q(3).", "3:1");
        Edges.model("p(X):-q(Y),Y=X.q(a).", "a:1");
        Edges.programRefused(3, "p(^X):-X=X.");
        Edges.programRefused(3, "p(^X):-X=Y.");
        Edges.programRefused(3, "p(^X):-Y=X.");
        Edges.programRefused(3, "p(^X):-X=Y,Y=X.");
        Edges.programRefused(3, "p(1):-q(Z),^X=Y.");
        Edges.model("p(X):-q(X),X=X.q(3).", "3:1");
        Edges.questionTaken("1: 3", "X=3?");
        Edges.questionRefused(3, "^X=Y?");
    }

    private static void bindsAgainAndAgain() {
        Edges.model("p(A):-A=B,B=C,C=D,D=E,E=F,F=3.", "3:1");
        Edges.model("p(A):-F=3,E=F,D=E,C=D,B=C,A=B.", "3:1");
        Edges.model("p(A):-B=A,C=B,D=C,E=D,F=E,3=F.", "3:1");
        Edges.model("p(A):-A is B+1,B is C+1,C is D+1,D is E+1,E=F,F=3.", "7:1");
        Edges.model("p(A):-A is B+C,B=D,C is D*2,q(D).q(5).", "15:1");
        Edges.model("p(A):-!r(A),A<9,A is B+1,B=C,q(C).q(5).q(6).q(8).r(7).", "6:1");
        Edges.programRefused(3, "p(^A):-A=B,B=C,C=D,D=E,E=F,F=G.");
        Edges.programRefused(3, "p(^A):-A is B+1,B is A+1.");
        Edges.programRefused(3, "p(^A):-A is B+1,B is C+1,C is A+1.");
        Edges.programRefused(3, "p(^A):-q(D),A is B+C,B=D.");
        Edges.programRefused(3, "p(A):-q(A),^B=C,C=D,D is B+A.");
        // Each RULE for itself.
        Edges.programRefused(3, "p(X):-X=1.p(^X):-X=Y.");
    }

    /** "(An is whose VARIABLE is BOUND otherwise holds if both are the same.)" */
    private static void testsWhatIsBoundOtherwise() {
        Edges.model("p(X):-q(X),X is 3+4.q(6).q(7).q(8).q(a).", "7:1");
        Edges.model("p(X):-X is 3+4,q(X).q(6).q(7).", "7:1");
        Edges.model("p(X):-q(X),X is X*X.q(0).q(1).q(2).q(-1).q(a).", "0:1 1:1");
        Edges.model("p(X):-X=7,X is 3+4.", "7:1");
        Edges.model("p(X):-X=8,X is 3+4.", "");
        Edges.model("p(X):-X=a,X is 3+4.", "");
        Edges.model("p(X):-X is 3+4,X is 5+2.", "7:1");
        Edges.model("p(X):-X is 3+4,X is 5+3.", "");
        Edges.model("p(X):-X=7,X=7.", "7:1");
        Edges.model("p(X):-X=7,X=8.", "");
        Edges.model("p(X,Y):-q(X),r(Y),X=Y.q(1).q(2).r(2).r(3).", "2,2:1");
        Edges.questionTaken("1: 1", "p(X),X is 3-2?");
        Edges.questionTaken("0: ", "p(X),X is 3-3?");
    }

    /** A RULE's TERMS may all be no VARIABLES; all LITERALS must hold all the same. */
    private static void asksAllOfAFact() {
        Edges.model("p(1):-2=2.", "1:1");
        Edges.model("p(1):-2=3.", "");
        Edges.model("p(1):-q(1),2=2,!q(2).q(1).", "1:1");
        Edges.model("p(1):-q(1),2=2,!q(2).q(1).q(2).", "");
        Edges.model("p(1):-q(1),q(2),q(3).q(1).q(2).", "");
    }
}
