/** Boundaries of TERM, ATOM and LITERAL, sentence by sentence. */
public final class AtomEdgeTest {
    private static final String[] RELATIONS = {"=", "!=", "<", "<=", ">", ">="};
    private static final String[] OPERATIONS = {"+", "-", "*", "/", "%"};

    public static void main(String[] args) {
        takesTerms();
        hasOneToFourArguments();
        hasOneToFourInAHead();
        takesAnythingInAtomsOnly();
        takesAnythingAtEachPlace();
        refusesAnythingBesideATotal();
        readsRelations();
        readsReckonings();
        deniesAtomsOnly();
        Checks.finish();
    }

    /** "A TERM: NUMBER, - NUMBER, NAME or VARIABLE". */
    private static void takesTerms() {
        Edges.programTaken(1, "p(1,-1,a,X):-q(1,-1,a,X),!r(1,-1,a,X).");
        Edges.programTaken(0, "p(- 1).p(-1).");
        Edges.programRefused(1, "p(-^-1).");
        Edges.programRefused(1, "p(-^a).");
        Edges.programRefused(1, "p(-^X):-q(X).");
        Edges.programRefused(1, "p(^+1).");
        Edges.programRefused(1, "p(1^+1).");
        Edges.programRefused(1, "p(1^-1).");
        Edges.programRefused(1, "p(^(1)).");
        Edges.programRefused(1, "p(a^(1)).");
        Edges.programRefused(1, "p(1):-q(a^(1)).");
        Edges.programRefused(1, "p(1):-q(-^_).");
        Edges.programRefused(1, "p(1):--^q(1).");
        String[] signs = {"(", ",", ".", "?", "!", ":-", "=", "!=", "<", "<=", ">", ">=", "+", "*", "/", "%"};
        for (String sign : signs) {
            Edges.programRefused(1, "p(^" + sign + "(X)):-q(X).");
            Edges.programRefused(1, "p(1):-q(^" + sign + "(X)).");
            Edges.programRefused(1, "p(1):-1=^" + sign + ".");
            Edges.factRefused(1, "p(^" + sign + "1).");
            Edges.questionRefused(1, "p(^" + sign + "X)?");
        }
        Edges.factTaken("p(-1).");
        Edges.factRefused(1, "p(-^a).");
        Edges.questionRefused(1, "p(-^X)?");
    }

    /** "ATOM: NAME ( ARGUMENT, .. ) with 1 to 4 ARGUMENTS"; FAULT 1: "a fifth ARGUMENT". */
    private static void hasOneToFourArguments() {
        String[] kinds = {"", "!"};
        for (String not : kinds) {
            Edges.programRefused(1, "p(1):-" + not + "q(^).");
            Edges.programTaken(1, "p(1):-" + not + "q(1).");
            Edges.programTaken(1, "p(1):-" + not + "q(1,2).");
            Edges.programTaken(1, "p(1):-" + not + "q(1,2,3).");
            Edges.programTaken(1, "p(1):-" + not + "q(1,2,3,4).");
            Edges.programRefused(1, "p(1):-" + not + "q(1,2,3,4,^5).");
            Edges.programRefused(1, "p(1):-" + not + "q(1,2,3,4, ^-5).");
            Edges.programRefused(1, "p(1):-" + not + "q(1,2,3,4,^_).");
            Edges.programRefused(1, "p(1):-" + not + "q(1,2,3,4,^X).");
            Edges.programRefused(1, "p(1):-" + not + "q(1,2,3,4,^~");
            Edges.programRefused(1, "p(1):-" + not + "q(1,2,3,4,^).");
            Edges.programRefused(1, "p(1):-" + not + "q(1,2,3,4, ^");
            Edges.programRefused(1, "p(1):-" + not + "q(1,2,3,4 ^5).");
            Edges.programRefused(1, "p(1):-" + not + "q(1,^).");
            Edges.programRefused(1, "p(1):-" + not + "q(^,1).");
            Edges.questionRefused(1, not + "p(^)?");
            Edges.questionTaken(not.isEmpty() ? "1: " : "0: ", not + "p(1)?");
            Edges.questionTaken(not.isEmpty() ? "1: " : "0: ", not + "t(1,2,3,4)?");
            Edges.questionRefused(1, not + "t(1,2,3,4,^5)?");
            Edges.questionRefused(1, not + "t(1,2,3,4,^X)?");
        }
    }

    /** "HEAD: NAME ( TERM, .. ) with 1 to 4". */
    private static void hasOneToFourInAHead() {
        String[] ends = {".", ":-s(1)."};
        for (int i = 0; i < 2; i++) {
            Edges.programRefused(1, "p(^)" + ends[i]);
            Edges.programTaken(i, "p(1)" + ends[i]);
            Edges.programTaken(i, "p(1,2)" + ends[i]);
            Edges.programTaken(i, "p(1,2,3)" + ends[i]);
            Edges.programTaken(i, "p(1,2,3,4)" + ends[i]);
            Edges.programRefused(1, "p(1,2,3,4,^5)" + ends[i]);
            Edges.programRefused(1, "p(1,2,3,4,^)" + ends[i]);
            Edges.programRefused(1, "p(1,2,3,4,^X)" + ends[i]);
            Edges.programRefused(1, "p(1,2,3,4,^count(X))" + ends[i]);
        }
        // A TOTAL is one of the four.
        Edges.programTaken(1, "p(1,2,3,count(X)):-s(X).");
        Edges.programTaken(1, "p(count(X),2,3,4):-s(X).");
        Edges.programRefused(1, "p(count(X),2,3,4,^5):-s(X).");
        Edges.programRefused(1, "p(1,2,3,count(X),^5):-s(X).");
        Edges.factRefused(1, "p(^).");
        Edges.factTaken("p(2).");
        Edges.factTaken("t(1,2,3,5).");
        Edges.factRefused(1, "t(1,2,3,4,^5).");
        Edges.factRefused(1, "t(1,2,3,4,^");
    }

    /** ".. ARGUMENTS: a TERM, or _": only of an ATOM. */
    private static void takesAnythingInAtomsOnly() {
        Edges.programTaken(1, "p(1):-q(_).");
        Edges.programTaken(1, "p(1):-q(_,_,_,_),!r(_,_,_,_).");
        Edges.questionTaken("1: ", "p(_)?");
        Edges.questionTaken("0: ", "!p(_)?");
        Edges.questionTaken("1: ", "t(_,_,_,_),q(_,_),p(_),!q(_,1)?");
        Edges.programRefused(1, "p(^_).");
        Edges.programRefused(1, "p(1,^_):-q(1).");
        Edges.programRefused(1, "p(count(^_)):-q(1).");
        Edges.programRefused(1, "p(1):-^_=1.");
        Edges.programRefused(1, "p(1):-1=^_.");
        Edges.programRefused(1, "p(1):-^_ is 1+1.");
        Edges.programRefused(1, "p(X):-X is ^_+1.");
        Edges.programRefused(1, "p(X):-X is 1+^_.");
        Edges.programRefused(1, "p(1):-^_(1).");
        Edges.programRefused(1, "p(1):-q(_^1).");
        Edges.programRefused(1, "p(1):-q(_^a).");
        Edges.programRefused(1, "p(1):-q(_^_).");
        Edges.factRefused(1, "p(^_).");
        Edges.questionRefused(1, "^_=1?");
        Edges.questionRefused(1, "p(X),X<^_?");
    }

    /** "an ATOM is a TUPLE (_ is anything); ! ATOM: there is no such TUPLE (with anything for _)". */
    private static void takesAnythingAtEachPlace() {
        String[][] rows = {
            {"_,2,3,4", "_,2,3,5"}, {"1,_,3,4", "2,_,3,4"}, {"1,2,_,4", "1,2,_,3"}, {"1,2,3,_", "1,2,4,_"},
            {"_,_,3,4", "_,_,4,4"}, {"1,_,_,4", "1,_,_,1"}, {"1,2,_,_", "2,2,_,_"}, {"_,2,3,_", "_,3,3,_"},
            {"1,_,_,_", "2,_,_,_"}, {"_,2,_,_", "_,1,_,_"}, {"_,_,3,_", "_,_,a,_"}, {"_,_,_,4", "_,_,_,0"},
        };
        for (String[] row : rows) {
            Edges.questionTaken("1: ", "t(" + row[0] + ")?");
            Edges.questionTaken("0: ", "!t(" + row[0] + ")?");
            Edges.questionTaken("0: ", "t(" + row[1] + ")?");
            Edges.questionTaken("1: ", "!t(" + row[1] + ")?");
            Edges.model("s(1):-t(" + row[0] + ").s(2):-!t(" + row[0] + ").t(1,2,3,4).", "1:1");
            Edges.model("s(1):-t(" + row[1] + ").s(2):-!t(" + row[1] + ").t(1,2,3,4).", "2:1");
            // With VARIABLES that have VALUES already.
            String known = row[0].replace("1", "X").replace("2", "Y").replace("3", "Z").replace("4", "W");
            String ahead = "q(X,Y),Z is 4-X,W is Z+1,";
            Edges.questionTaken("1: 1,2,3,4", ahead + "t(" + known + ")?");
            Edges.questionTaken("0: ", ahead + "!t(" + known + ")?");
        }
    }

    /** "_ (not in an ATOM without ! of a RULE with a TOTAL)". */
    private static void refusesAnythingBesideATotal() {
        String[] words = {"count", "sum", "least", "most"};
        for (String word : words) {
            String head = "p(" + word + "(X)):-";
            Edges.programTaken(1, head + "q(X,Y).");
            Edges.programRefused(1, head + "q(X,^_).");
            Edges.programRefused(1, head + "q(^_,X).");
            Edges.programRefused(1, head + "s(X),r(^_).");
            Edges.programRefused(1, head + "!r(_),r(^_),s(X).");
            Edges.programTaken(1, head + "s(X),!r(_).");
            Edges.programTaken(1, head + "!r(X,_),s(X),!u(_,_,_,_).");
        }
        Edges.programTaken(2, "p(count(X)):-s(X).r(X):-q(X,_).");
        Edges.programRefused(1, "r(X):-q(X,_).p(count(X)):-q(X,^_).");
        // A HEAD with a TOTAL that was refused leaves nothing for the next text.
        RuleHouse house = new RuleHouse();
        Checks.same("refused", Checks.program(house, "p(count(X)):-q(X,_)."), "1@17");
        Checks.same("taken", Checks.program(house, "p(X):-q(X,_)."), "1");
    }

    /** "TERM = TERM, likewise with != < <= > >=". */
    private static void readsRelations() {
        for (String sign : RELATIONS) {
            Edges.programTaken(1, "p(1):-s(X),X" + sign + "X.");
            Edges.programTaken(1, "p(1):-s(X),X" + sign + "1.");
            Edges.programTaken(1, "p(1):-s(X),a" + sign + "X.");
            Edges.programTaken(1, "p(1):- -1" + sign + "a.");
            Edges.programRefused(1, "p(1):-^" + sign + "1.");
            Edges.programRefused(1, "p(1):-1" + sign + "^.");
            Edges.programRefused(1, "p(1):-1" + sign + "^,1=1.");
            Edges.programRefused(1, "p(1):-1" + sign + "2^" + sign + "3.");
            Edges.programRefused(1, "p(1):-1" + sign + "2^+3.");
            Edges.programRefused(1, "p(1):-1" + sign + "a^(1).");
            Edges.programRefused(1, "p(1):-a(1)^" + sign + "1.");
            Edges.programRefused(1, "p(1)^" + sign + "1.");
        }
        Edges.programRefused(1, "p(1):-1^.");
        Edges.programRefused(1, "p(1):-a^.");
        Edges.programRefused(1, "p(1):-X^.");
        Edges.programRefused(1, "p(1):-1^,2=2.");
        Edges.programRefused(1, "p(1):-1^+1=2.");
        Edges.programRefused(1, "p(1):-1^:-2.");
        Edges.questionRefused(1, "1^?");
        Edges.questionRefused(1, "X^(1)?");
    }

    /** "VARIABLE is TERM + TERM, likewise with - * / %". */
    private static void readsReckonings() {
        for (String sign : OPERATIONS) {
            Edges.programTaken(1, "p(X):-X is 7" + sign + "2.");
            Edges.programTaken(1, "p(X):-s(X),X is X" + sign + "X.");
            Edges.programTaken(1, "p(X):-X is a" + sign + "-7.");
            Edges.programRefused(1, "p(X):-X is ^" + (sign.equals("-") ? "" : sign) + ".");
            Edges.programRefused(1, "p(X):-X is 1" + sign + "^.");
            Edges.programRefused(1, "p(X):-X is 1" + sign + "1^" + sign + "1.");
            Edges.programRefused(1, "p(X):-X is 1" + sign + "1^=1.");
            Edges.programRefused(1, "p(X):-X^" + sign + "1=1.");
            Edges.programRefused(1, "p(X):-X=1^" + sign + "1.");
        }
        for (String sign : RELATIONS) {
            Edges.programRefused(1, "p(X):-X is 1^" + sign + "1.");
        }
        Edges.programRefused(1, "p(X):-X is 1^.");
        Edges.programRefused(1, "p(X):-X is 1 ^1.");
        Edges.programRefused(1, "p(X):-X is X ^is 1+1.");
        Edges.programRefused(1, "p(1):-1 ^is 1+1.");
        Edges.programRefused(1, "p(1):--1 ^is 1+1.");
        Edges.programRefused(1, "p(1):-a ^is 1+1.");
        Edges.programRefused(1, "p(1):-^is 1+1.");
        Edges.programRefused(1, "p(X):-!^X is 1+1.");
        Edges.programRefused(1, "p(X):-X is ^count");
        Edges.questionTaken("1: 9", "X is 7+2?");
        Edges.questionRefused(1, "X is 7^?");
    }

    /** "LITERAL: an ATOM; ! ATOM". */
    private static void deniesAtomsOnly() {
        Edges.programTaken(1, "p(1):-!q(1).");
        Edges.programTaken(1, "p(1):-! q(1).");
        Edges.programRefused(1, "p(1):-!^!q(1).");
        Edges.programRefused(1, "p(1):-!^1=1.");
        Edges.programRefused(1, "p(1):-!^X=1.");
        Edges.programRefused(1, "p(1):-!^.");
        Edges.programRefused(1, "p(1):-!q^.");
        Edges.programRefused(1, "p(1):-!q^=1.");
        Edges.programRefused(1, "^!p(1).");
        Edges.programRefused(1, "^!p(1):-q(1).");
        Edges.factRefused(1, "^!p(1).");
        Edges.questionTaken("1: ", "!p(7)?");
        Edges.questionRefused(1, "!^?");
    }
}
