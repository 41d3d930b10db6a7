/** Boundaries of BODY and QUESTION: their LITERALS, ATOMS and VARIABLES, sentence by sentence. */
public final class BodyEdgeTest {
    private static final String FIVE = "1=1,2=2,3=3,4=4,5=5";
    private static final String SIX = FIVE + ",6=6";

    public static void main(String[] args) {
        hasOneToSixLiterals();
        hasThreeAtomsWithoutNot();
        hasEightVariablesInARule();
        hasEightVariablesInAQuestion();
        usesTheEighthVariable();
        endsAQuestion();
        Checks.finish();
    }

    /** "BODY: 1 to 6 LITERALS, parted by commas"; FAULT 1: "a seventh LITERAL". */
    private static void hasOneToSixLiterals() {
        String[] literals = {"1=1", "p(1)", "!p(2)", "X is 1+1", "-1<a", "q(_,2)"};
        for (String literal : literals) {
            Edges.programTaken(1, "s(1):-" + literal + ".");
            Edges.programTaken(1, "s(1):-" + FIVE + "," + literal + ".");
            Edges.programTaken(1, "s(1):-" + literal + "," + FIVE + ".");
            Edges.programRefused(1, "s(1):-" + SIX + ",^" + literal + ".");
            Edges.programRefused(1, "s(1):-" + literal + "," + FIVE + ",^6=6.");
            Edges.programRefused(1, "s(1):-" + SIX + "," + "  ^" + literal + ",7=7.");
            String one = literal.charAt(0) == 'X' ? "1: 2" : "1: ";
            Edges.questionTaken(one, literal + "?");
            Edges.questionTaken(one, FIVE + "," + literal + "?");
            Edges.questionRefused(1, SIX + ",^" + literal + "?");
        }
        Edges.programRefused(1, "s(1):-^.");
        Edges.programRefused(1, "s(1):-^,1=1.");
        Edges.programRefused(1, "s(1):-1=1,^.");
        Edges.programRefused(1, "s(1):-1=1,^,1=1.");
        Edges.programRefused(1, "s(1):-1=1 ^2=2.");
        Edges.programRefused(1, "s(1):-" + SIX + ",^.");
        Edges.programRefused(1, "s(1):-" + SIX + ",^~");
        Edges.programRefused(1, "s(1):-" + SIX + ", ^");
        Edges.programRefused(1, "s(1):-" + SIX + "^?");
        Edges.questionRefused(1, "^?");
        Edges.questionRefused(1, "^,1=1?");
        Edges.questionRefused(1, "1=1,^?");
        Edges.questionRefused(1, SIX + ",^?");
        Edges.questionRefused(1, SIX + ",^");
        // They are counted anew in each RULE.
        Edges.programTaken(2, "s(1):-" + SIX + ".s(2):-" + SIX + ".");
        Edges.programRefused(1, "s(1):-" + SIX + ".s(2):-" + SIX + ",^7=7.");
    }

    /** "at most 3 of them ATOMS without !"; FAULT 1: "fourth such ATOM". */
    private static void hasThreeAtomsWithoutNot() {
        Edges.programTaken(1, "s(1):-p(1),p(1),p(1).");
        Edges.programRefused(1, "s(1):-p(1),p(1),p(1),^p(1).");
        Edges.programRefused(1, "s(1):-p(1),p(1),p(1), ^u(1),p(1).");
        Edges.programTaken(1, "s(1):-1=1,p(1),!u(1),p(1),1=1,p(1).");
        Edges.programRefused(1, "s(1):-p(1),1=1,p(1),!u(1),p(1),^p(1).");
        Edges.programTaken(1, "s(1):-p(1),p(1),p(1),!p(1),!p(1),!p(1).");
        Edges.programTaken(1, "s(1):-!p(1),!p(1),!p(1),!p(1),!p(1),!p(1).");
        Edges.programTaken(1, "s(1):-!p(1),!p(1),!p(1),p(1),p(1),p(1).");
        Edges.programTaken(1, "s(1):-p(1),p(1),p(1),p=p,p<p,p!=1.");
        Edges.programRefused(1, "s(1):-p(1),p(1),p(1),p^.");
        Edges.programRefused(1, "s(1):-p(1),p(1),p(1),^p(~");
        Edges.programTaken(1, "s(count(X)):-p(X),p(X),p(X).");
        Edges.programRefused(1, "s(count(X)):-p(X),p(X),p(X),^p(X).");
        Edges.programTaken(2, "s(1):-p(1),p(1),p(1).s(2):-p(1),p(1),p(1).");
        Edges.programRefused(1, "s(1):-p(1).s(2):-p(1),p(1),p(1),^p(1).");
        Edges.questionTaken("2: 1 a", "p(X),p(X),p(X)?");
        Edges.questionTaken("1: 1", "p(X),p(X),q(X,2),!q(X,X),!p(2),!r(2)?");
        Edges.questionRefused(1, "p(X),p(X),p(X),^p(X)?");
        Edges.questionRefused(1, "p(X),p(X),p(X),!p(2),^z(X)?");
    }

    /** "at most 8 VARIABLES in a RULE (or QUESTION; a ninth one is a FAULT 1)". */
    private static void hasEightVariablesInARule() {
        String eight = "u(A,B,C,D),v(E,F,G,H)";
        Edges.programTaken(1, "s(A,H):-" + eight + ".");
        Edges.programTaken(1, "s(A,H):-" + eight + ",!u(A,B,C,D),H=A,A is H+G,E<=F.");
        Edges.programRefused(1, "s(I):-u(A,B,C,D),v(E,F,G,^H).");
        Edges.programRefused(1, "s(A):-" + eight + ",u(^I,A,A,A).");
        Edges.programRefused(1, "s(A):-" + eight + ",u(A,A,A,^I).");
        Edges.programRefused(1, "s(A):-" + eight + ",!u(A,A,A,^I).");
        Edges.programRefused(1, "s(A):-" + eight + ",^I=A.");
        Edges.programRefused(1, "s(A):-" + eight + ",A=^I.");
        Edges.programRefused(1, "s(A):-" + eight + ",A<^I.");
        Edges.programRefused(1, "s(A):-" + eight + ",^I is A+B.");
        Edges.programRefused(1, "s(A):-" + eight + ",A is ^I+B.");
        Edges.programRefused(1, "s(A):-" + eight + ",A is B+^I.");
        Edges.programRefused(1, "s(A,B,C,D):-v(E,F,G,H),^I=1,J=1.");
        Edges.programTaken(1, "s(count(A)):-" + eight + ".");
        Edges.programRefused(1, "s(count(A)):-" + eight + ",^I=1.");
        Edges.programRefused(1, "s(count(I)):-u(A,B,C,D),v(E,F,G,^H).");
        Edges.programTaken(2, "s(A):-" + eight + ".s(I):-u(I,J,K,L),v(M,N,O,P).");
        Edges.programRefused(1, "s(A):-" + eight + ".s(I):-u(I,J,K,L),v(M,N,O,P),^Q=1.");
        // A ninth one goes ahead of those that are not BOUND.
        Edges.programRefused(1, "s(A):-A<B,C<D,E<F,G<H,^I<A.");
        Edges.programRefused(3, "s(^A):-A<B,C<D,E<F,G<H,H<A.");
        // _ is no VARIABLE.
        Edges.programTaken(1, "s(A):-" + eight + ",w(_,_),!w(_,A).");
        Edges.model("s(A,D,E,H):-" + eight + ".u(1,2,3,4).v(5,6,7,8).", "1,4,5,8:1");
        // The first eight are kept apart, the last one of them, too.
        Edges.model("s(H,G,A):-" + eight + ",H!=G,G>A.u(1,2,3,4).v(5,6,7,8).v(5,6,7,7).", "8,7,1:1");
    }

    private static void hasEightVariablesInAQuestion() {
        String seven = "t(A,B,C,D),q(E,F),G=1";
        Edges.questionTaken("2: 1,2,3,4,1,2,1,9 1,2,3,4,a,b,1,9", seven + ",H=9?");
        Edges.questionTaken("1: 1,2,3,4,1,2,1,3", seven + ",H is E+F?");
        Edges.questionRefused(1, seven + ",H=9,^I=9?");
        Edges.questionRefused(1, seven + ",H=^I?");
        Edges.questionRefused(1, seven + ",H is E+^I?");
        Edges.questionRefused(1, seven + ",H=1,!p(^I)?");
        Edges.questionRefused(1, seven + ",H=1,p(^I)?");
        Edges.questionTaken("2: 1,2,3,4,1,2,1,9 1,2,3,4,a,b,1,9", seven + ",H=9,p(E)?");
    }

    /** The eighth one is as good as the others, wherever it stands. */
    private static void usesTheEighthVariable() {
        String facts = "u(1,2,3,4).v(5,6,7,8).v(5,6,7,9).w(8).x(9,8).";
        String eight = "u(A,B,C,D),v(E,F,G,H)";
        String eighth8 = "1: 1,2,3,4,5,6,7,8";
        String eighth9 = "1: 1,2,3,4,5,6,7,9";
        String both = "2: 1,2,3,4,5,6,7,8 1,2,3,4,5,6,7,9";
        String[][] rows = {
            {"", both}, {",H<9", eighth8}, {",8<H", eighth9}, {",H=8", eighth8}, {",9=H", eighth9},
            {",H!=8", eighth9}, {",H<=8", eighth8}, {",H>=9", eighth9}, {",9>H", eighth8},
            {",E is H-3", eighth8}, {",E is 14-H", eighth9}, {",H is D+5", eighth9}, {",H is D*2", eighth8},
            {",w(H)", eighth8}, {",!w(H)", eighth9}, {",x(9,H)", eighth8}, {",!x(_,H)", eighth9},
            {",x(H,8)", eighth9}, {",!x(H,_)", eighth8}, {",H=H", both}, {",H<H", "0: "},
        };
        for (String[] row : rows) {
            RuleHouse house = Checks.solved(facts);
            Checks.same("first " + row[0], Checks.answers(house, eight + row[0] + "?"), row[1]);
            Checks.same("second " + row[0], Checks.answers(house, eight + row[0] + "?"), row[1]);
            String rule = "s(A,D,E,count(C)):-" + eight + row[0] + ".";
            String ways = row[1].equals("0: ") ? "" : "1,4,5," + row[1].charAt(0) + ":1";
            Edges.model(rule + facts, ways);
            Edges.model("s(A,B):-" + eight + row[0] + "." + facts, ways.isEmpty() ? "" : "1,2:1");
        }
        // A QUESTION's answers go by the eighth one, if all else is the same.
        RuleHouse house = Checks.solved("t(1,1,1,1).q(b).q(-1).q(a).q(3).");
        String due = "4: 1,1,1,1,1,1,1,-1 1,1,1,1,1,1,1,3 1,1,1,1,1,1,1,a 1,1,1,1,1,1,1,b";
        Checks.same("in order", Checks.answers(house, "t(A,B,C,D),t(E,F,G,_),q(H)?"), due);
        Checks.same("in order again", Checks.answers(house, "t(A,B,C,D),t(E,F,G,_),q(H)?"), due);
    }

    /** "A QUESTION: BODY ?". */
    private static void endsAQuestion() {
        Edges.questionTaken("1: ", "p(1)?");
        Edges.questionTaken("1: ", "p(1) ? ");
        Edges.questionRefused(1, "p(1)^");
        Edges.questionRefused(1, "p(1)^.");
        Edges.questionRefused(1, "p(1)^!");
        Edges.questionRefused(1, "p(1)^:-p(1)?");
        Edges.questionRefused(1, "p(1)?^?");
        Edges.questionRefused(1, "p(1)? ^p(1)?");
        Edges.questionRefused(1, "p(1)?^.");
        Edges.questionRefused(1, "p(1)?^~");
        Edges.programRefused(1, "p(1)^?");
        Edges.programRefused(1, "p(1):-p(1)^?");
        Edges.factRefused(1, "p(1)^?");
        // A TOTAL is of a HEAD alone.
        Edges.questionRefused(1, "p(^count(X))?");
    }
}
