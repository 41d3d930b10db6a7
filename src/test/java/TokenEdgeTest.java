/** Boundaries of TOKENS, BLANKS and WORDS, sentence by sentence. */
public final class TokenEdgeTest {
    private static final String[] WORDS = {"is", "count", "sum", "least", "most"};

    public static void main(String[] args) {
        endsNamesWithSix();
        endsVariablesWithFour();
        endsNumbersWithNine();
        knowsNoOtherCharacters();
        takesSignsAsLongAsTheyGo();
        needsBlanksOnlyBetween();
        tellsPlacesFromZero();
        keepsWords();
        takesWhatIsAlmostAWord();
        Checks.finish();
    }

    /** "NAMES (a small letter, then small letters or digits, at most 6)". */
    private static void endsNamesWithSix() {
        String[] good = {"a", "z", "m", "abcdef", "a00000", "z99999", "a0z9b1", "zzzzzz"};
        for (String name : good) {
            Edges.programTaken(1, name + "(" + name + "):-" + name + "(1),!s(" + name + ")," + name + "=1.");
            Edges.factTaken("t(1,2,3," + name + ").");
            RuleHouse house = Checks.solved(name + "(" + name + ").");
            Checks.same("NAME " + name, Checks.nameOf(house, 0), name);
            Checks.same("SYMBOL " + name, house.tuple(0, 0, 0), Checks.symbol(name));
        }
        String[] longer = {"abcdefg", "a000000", "zzzzzzz", "a234567890", "abcdefghijklmnop"};
        for (String name : longer) {
            Edges.programRefused(1, "^" + name + "(1).");
            Edges.programRefused(1, "p(1).^" + name + "(1):-p(1).");
            Edges.programRefused(1, "p(^" + name + ").");
            Edges.programRefused(1, "p(1):-^" + name + "(1).");
            Edges.programRefused(1, "p(1):-!^" + name + "(1).");
            Edges.programRefused(1, "p(1):-1=^" + name + ".");
            Edges.programRefused(1, "p(X):-X ^" + name + " 1+1.");
            Edges.factRefused(1, "p(^" + name + ").");
            Edges.questionRefused(1, "p(^" + name + ")?");
        }
        Edges.programRefused(1, "p(a^B).");
        Edges.programRefused(1, "p(1^a).");
        Edges.programRefused(1, "p^_q(1).");
        // The characters next to a and z, and to 0 and 9, are of no NAME.
        Edges.programRefused(1, "p(^`).");
        Edges.programRefused(1, "p(^{).");
        Edges.programRefused(1, "p(a^`).");
        Edges.programRefused(1, "p(a^{).");
        Edges.programRefused(1, "p(a^/).");
        Edges.programRefused(1, "p(a^:).");
    }

    /** "VARIABLES (a great letter, then letters or digits, at most 4)". */
    private static void endsVariablesWithFour() {
        String[] good = {"A", "Z", "M", "ABCD", "Abcd", "Zz99", "A000", "ZZZZ", "Aa0A"};
        for (String name : good) {
            Edges.programTaken(1, "p(" + name + "):-q(" + name + "),!r(" + name + ")," + name + "=1.");
            Edges.questionTaken("2: 1 a", "p(" + name + ")?");
        }
        String[] longer = {"ABCDE", "Abcde", "Zz999", "A0000", "ZZZZZ", "Abcdefghij"};
        for (String name : longer) {
            Edges.programRefused(1, "p(^" + name + "):-q(" + name + ").");
            Edges.programRefused(1, "p(1):-q(^" + name + ").");
            Edges.programRefused(1, "p(1):-!q(^" + name + ").");
            Edges.programRefused(1, "p(1):-^" + name + "=1.");
            Edges.programRefused(1, "p(count(^" + name + ")):-q(1).");
            Edges.factRefused(1, "p(^" + name + ").");
            Edges.questionRefused(1, "p(^" + name + ")?");
        }
        // Different up to the last letter, and by small and great ones.
        Edges.questionTaken("2: 1,1,2 a,a,b", "p(Abc1),q(Abc2,Abc3),Abc1=Abc2?");
        Edges.questionTaken("2: 1,2 a,b", "q(Ab,AB)?");
        Edges.questionTaken("2: 1,2 a,b", "q(A,Aa)?");
        Edges.programRefused(1, "p(^@).");
        Edges.programRefused(1, "p(^[).");
        Edges.programRefused(1, "p(X^@):-q(X).");
        Edges.programRefused(1, "p(X^[):-q(X).");
        Edges.programRefused(1, "p(X^_):-q(X).");
    }

    /** "NUMBERS (1 to 9 digits)". */
    private static void endsNumbersWithNine() {
        Edges.model("v(0).v(9).v(10).v(123456789).v(999999999).v(-999999999).v(-1).",
                "-999999999:0 -1:0 0:0 9:0 10:0 123456789:0 999999999:0");
        Edges.model("v(000000000).v(-0).v(0).v(000000007).v(7).v(-000000007).", "-7:0 0:0 7:0");
        String[] longer = {"1234567890", "0000000000", "0000000001", "9999999999", "2147483647",
            "12345678901234567890"};
        for (String number : longer) {
            Edges.programRefused(1, "p(^" + number + ").");
            Edges.programRefused(1, "p(-^" + number + ").");
            Edges.programRefused(1, "p(1):-^" + number + "=1.");
            Edges.programRefused(1, "p(1):-1=^" + number + ".");
            Edges.programRefused(1, "p(X):-X is ^" + number + "+1.");
            Edges.programRefused(1, "p(X):-X is 1+^" + number + ".");
            Edges.factRefused(1, "p(^" + number + ").");
            Edges.questionRefused(1, "p(^" + number + ")?");
        }
        Edges.factTaken("p(999999999).");
        Edges.questionTaken("0: ", "p(999999999)?");
        Edges.programRefused(1, "p(1^X).");
        Edges.programRefused(1, "p(1^.5).");
    }

    /** "FAULTS: 1 the first TOKEN that can't stand there (or is none: its first character". */
    private static void knowsNoOtherCharacters() {
        String none = "\"#$&';@[\\]`{|}~";
        for (int i = 0; i < none.length(); i++) {
            char one = none.charAt(i);
            Edges.programRefused(1, "^" + one);
            Edges.programRefused(1, "p(1)^" + one + ".");
            Edges.programRefused(1, "p(^" + one + "1).");
            Edges.programRefused(1, "p(1):-p(1)^" + one + "p(1).");
            Edges.factRefused(1, "p(1)^" + one + ".");
            Edges.factRefused(1, "p(1).^" + one);
            Edges.questionRefused(1, "p(X)^" + one + "?");
            Edges.questionRefused(1, "p(X)?^" + one);
        }
        // ^ marks the place in these texts, so it is looked at apart.
        Checks.same("^", Checks.program(new RuleHouse(), "p(1)^."), "1@4");
        Edges.programRefused(1, "p(1)^:q(1).");
        Edges.programRefused(1, "p(1)^::-q(1).");
        Edges.programRefused(1, "p(1)^:");
    }

    /** "TOKENS, each as long as what stands there goes on". */
    private static void takesSignsAsLongAsTheyGo() {
        String[] relations = {"=", "!=", "<", "<=", ">", ">="};
        for (String sign : relations) {
            Edges.programTaken(1, "p(1):-1" + sign + "2.");
            Edges.programTaken(1, "p(1):-1" + sign + "-2.");
            Edges.programTaken(1, "p(1):-a " + sign + " - 2.");
        }
        String[] operations = {"+", "-", "*", "/", "%"};
        for (String sign : operations) {
            Edges.programTaken(1, "p(X):-X is 1" + sign + "2.");
            Edges.programTaken(1, "p(X):-X is-1" + sign + "-2.");
            Edges.programTaken(1, "p(X):-X is - 1 " + sign + " - 2.");
        }
        Edges.programRefused(1, "p(1)^: -q(1).");
        Edges.programRefused(1, "p(1):--^q(1).");
        Edges.programRefused(1, "p(1):-1^! =2.");
        Edges.programRefused(1, "p(1):-1< ^=2.");
        Edges.programRefused(1, "p(1):-1> ^=2.");
        Edges.programRefused(1, "p(1):-1=^<2.");
        Edges.programRefused(1, "p(1):-1=^>2.");
        Edges.programRefused(1, "p(1):-1=^=2.");
        Edges.programRefused(1, "p(1):-1=^!2.");
        Edges.programRefused(1, "p(1):-1<^>2.");
        Edges.programRefused(1, "p(1):-1<=^=2.");
        Edges.programRefused(1, "p(1):-^!=q(1).");
        Edges.programRefused(1, "p(1):-1!=^!q(1).");
        // A sign that is cut by the tape's end is the shorter one.
        Edges.programRefused(1, "p(1):-1<^");
        Edges.programRefused(1, "p(1):-1<=^");
        Edges.programRefused(1, "p(1):-1^!");
        Edges.programRefused(1, "p(1):-1!=^");
        Edges.programRefused(1, "p(1):-^");
    }

    /** "BLANKS may stand between, and must only where two would be one". */
    private static void needsBlanksOnlyBetween() {
        Edges.programTaken(1, "p(X,Y):-q(X),!r(X,_),Y is X+1,X<=9.");
        Edges.programTaken(1, "  p  (  X  ,  Y  )  :-  q  (  X  )  ,  !  r  (  X  ,  _  )  ,  Y  is  X  +  1  "
                + ",  X  <=  9  .  ");
        Edges.programTaken(1, "p ( count ( X ) ) :- q ( X ) .");
        Edges.factTaken("   p   (   -   7   )   .   ");
        Edges.questionTaken("2: 1 a", "  p  (  X  )  ,  !  q  (  _  ,  X  )  ?  ");
        // A VARIABLE goes on into is, is into a digit or a small letter, but not into a great one.
        Edges.programRefused(1, "p(X):-Xis ^1+1.");
        Edges.programRefused(1, "p(X):-X ^is1+1.");
        Edges.programRefused(1, "p(X):-X ^isa+1.");
        Edges.programTaken(1, "p(X):-q(Y),X isY+1.");
        Edges.programTaken(1, "p(X):-X is-1+1.");
        Edges.programTaken(1, "p(X):-q(Y),X is Y+1,Y<2,X is 1+Y.");
        // Two VARIABLES, NAMES or NUMBERS side by side are one, or can't stand there.
        Edges.programRefused(1, "p(1 ^2).");
        Edges.programRefused(1, "p(a ^b).");
        Edges.programRefused(1, "p(X ^Y):-q(X,Y).");
        Edges.programTaken(0, "p(12).p(ab).");
        Edges.programRefused(1, "p ^p(1).");
    }

    /** "places are from 0 on"; "the tape's length, if it ends too early". */
    private static void tellsPlacesFromZero() {
        Edges.programRefused(1, "^(1).");
        Edges.programRefused(1, "    ^(1).");
        Edges.programRefused(1, "p^");
        Edges.programRefused(1, "p(^");
        Edges.programRefused(1, "p(1^");
        Edges.programRefused(1, "p(-^");
        Edges.programRefused(1, "p(1,^");
        Edges.programRefused(1, "p(1)^");
        Edges.programRefused(1, "p(1).p^");
        Edges.programRefused(1, "p(1):-^");
        Edges.programRefused(1, "p(1):-!^");
        Edges.programRefused(1, "p(1):-q^");
        Edges.programRefused(1, "p(1):-q(1)^");
        Edges.programRefused(1, "p(1):-q(1),^");
        Edges.programRefused(1, "p(X):-X is^");
        Edges.programRefused(1, "p(X):-X is 1^");
        Edges.programRefused(1, "p(X):-X is 1+^");
        Edges.programRefused(1, "p(count^");
        Edges.programRefused(1, "p(count(^");
        Edges.programRefused(1, "p(count(X^");
        Edges.programRefused(1, "p(count(X)^");
        Edges.factRefused(1, "^");
        Edges.factRefused(1, "p(1)^");
        Edges.questionRefused(1, "^");
        Edges.questionRefused(1, "p(1)^");
        Edges.questionRefused(1, "p(1),^");
        // Blanks at the end are of the tape's length.
        Edges.programRefused(1, "p(1)   ^");
        Edges.factRefused(1, "   ^");
        Edges.questionRefused(1, "p(1),   ^");
    }

    /** "The NAMES is, count, sum, least, most are WORDS, and name nothing else". */
    private static void keepsWords() {
        for (String word : WORDS) {
            Edges.programRefused(1, "^" + word + "(1).");
            Edges.programRefused(1, "^" + word + "(X):-p(X).");
            Edges.programRefused(1, "p(1):-^" + word + "(1).");
            Edges.programRefused(1, "p(1):-!^" + word + "(1).");
            Edges.programRefused(1, "p(1):-q(^" + word + ").");
            Edges.programRefused(1, "p(1):-!q(^" + word + ").");
            Edges.programRefused(1, "p(1):-^" + word + "=1.");
            Edges.programRefused(1, "p(1):-1=^" + word + ".");
            Edges.programRefused(1, "p(X):-X is ^" + word + "+1.");
            Edges.programRefused(1, "p(X):-X is 1+^" + word + ".");
            Edges.programRefused(1, "p(-^" + word + ").");
            Edges.factRefused(1, "^" + word + "(1).");
            Edges.questionRefused(1, "^" + word + "(1)?");
            Edges.questionRefused(1, "p(^" + word + ")?");
            boolean total = !word.equals("is");
            Edges.programRefused(1, total ? "p(" + word + "^)." : "p(^is).");
            Edges.factRefused(1, total ? "p(" + word + "^)." : "p(^is).");
            Edges.programRefused(1, total ? "p(1):-q(^" + word + "(X))." : "p(1)^is.");
            Edges.questionRefused(1, "p(^" + word + "(X))?");
        }
    }

    private static void takesWhatIsAlmostAWord() {
        String[] names = {"i", "s", "iss", "is1", "si", "coun", "counts", "count1", "ount", "su", "sums",
            "sum2", "um", "leas", "leasts", "least9", "east", "mos", "mosts", "most0", "ost"};
        for (String name : names) {
            Edges.programTaken(1, name + "(1).p(" + name + "):-" + name + "(X),!q(" + name + "),X=" + name
                    + ".");
        }
    }
}
