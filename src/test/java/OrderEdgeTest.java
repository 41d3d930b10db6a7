/** Boundaries of VALUES, their order and the relations, sentence by sentence. */
public final class OrderEdgeTest {
    /** In order; LOW and HIGH are the least and the greatest number. */
    private static final String[] VALUES = {"LOW", "-999999999", "-10", "-9", "-1", "0", "1", "9", "10",
        "999999999", "HIGH", "a", "a0", "a00", "a09", "a9", "a9z", "aa", "aaaaaa", "aaaaab", "ab", "az",
        "b", "b0", "z", "z9", "zz", "zzzzzz"};
    private static final String LIMITS =
            "lim(H):-A is 999999999*2,H is A+147483649.lim(L):-A is 999999999*2,L is A+147483650.";

    public static void main(String[] args) {
        ordersTuples();
        ordersAnswers();
        ordersByAllArguments();
        comparesByOrder();
        equalsByValues();
        Checks.finish();
    }

    private static String shown(String value) {
        return value.replace("LOW", "-2147483648").replace("HIGH", "2147483647");
    }

    private static RuleHouse withAllValues() {
        // Typed from the last one on, so that the order is not that of the text.
        StringBuilder text = new StringBuilder();
        for (int i = VALUES.length - 1; i >= 0; i--) {
            if (!shown(VALUES[i]).startsWith("2147") && !shown(VALUES[i]).startsWith("-2147")) {
                text.append("v(").append(VALUES[i]).append(").");
            }
        }
        return Checks.solved(text + "v(X):-lim(X)." + LIMITS);
    }

    /**
     * "In order: numbers by what they are, then SYMBOLS as words in a book, a digit ahead of a
     * letter, a word ahead of what it begins".
     */
    private static void ordersTuples() {
        RuleHouse house = withAllValues();
        Checks.same("TUPLES", house.predicate(0, 4), VALUES.length);
        for (int i = 0; i < VALUES.length; i++) {
            Checks.same("TUPLE " + i, Checks.tuple(house, 0, i, 0), shown(VALUES[i]));
        }
    }

    private static void ordersAnswers() {
        RuleHouse house = withAllValues();
        Checks.same("answers", Checks.ask(house, "v(X)?"), VALUES.length);
        for (int i = 0; i < VALUES.length; i++) {
            Checks.same("answer " + i, Checks.answer(house, i, 0), shown(VALUES[i]));
        }
    }

    /** "in order, by the first ARGUMENT, then the second one ..", and likewise of answers. */
    private static void ordersByAllArguments() {
        RuleHouse house = Checks.solved("w(1,a,2,b).w(1,a,2,a).w(1,a,a,1).w(1,a,-1,z).w(1,9,z,z).w(a,1,1,1)."
                + "w(-1,z,z,z).");
        String due = "-1,z,z,z 1,9,z,z 1,a,-1,z 1,a,2,a 1,a,2,b 1,a,a,1 a,1,1,1";
        Checks.same("TUPLES", Checks.tuples(house, 0), due.replace(" ", ":0 ") + ":0");
        Checks.same("answers", Checks.answers(house, "w(A,B,C,D)?"), "7: " + due);
        Checks.same("by the VARIABLE that is first", Checks.answers(house, "D=D,w(A,B,C,D),C=z?"),
                "2: z,-1,z,z z,1,9,z");
        RuleHouse wide = Checks.solved("e(1,2).e(2,1).");
        Checks.same("by the eighth VARIABLE", Checks.answers(wide, "e(A,B),e(C,D),e(E,F),A=C,C=E,e=e?"),
                "2: 1,2,1,2,1,2 2,1,2,1,2,1");
        Checks.same("eight of them", Checks.answers(wide, "A=1,B=A,C=B,D=C,e(E,F),e(G,H)?"),
                "4: 1,1,1,1,1,2,1,2 1,1,1,1,1,2,2,1 1,1,1,1,2,1,1,2 1,1,1,1,2,1,2,1");
    }

    /** "of relations = and != by VALUES, others by their order". */
    private static void comparesByOrder() {
        for (int i = 0; i < VALUES.length; i++) {
            // Anew for each, as an object is used for at most 512 calls.
            RuleHouse house = withAllValues();
            String value = shown(VALUES[i]);
            boolean written = value.length() <= 9 || value.equals("-999999999");
            if (written) {
                Checks.same("below " + value, Checks.ask(house, "v(X),X<" + value + "?"), i);
                Checks.same("up to " + value, Checks.ask(house, "v(X),X<=" + value + "?"), i + 1);
                Checks.same("above " + value, Checks.ask(house, "v(X),X>" + value + "?"),
                        VALUES.length - 1 - i);
                Checks.same("from " + value, Checks.ask(house, "v(X),X>=" + value + "?"),
                        VALUES.length - i);
                Checks.same("as " + value, Checks.answers(house, "v(X),X=" + value + "?"), "1: " + value);
                Checks.same("not as " + value, Checks.ask(house, "v(X),X!=" + value + "?"),
                        VALUES.length - 1);
            }
        }
        RuleHouse house = withAllValues();
        Checks.same("the least is not below itself", Checks.ask(house, "lim(X),X<0,X<X?"), "0");
        Checks.same("the least", Checks.ask(house, "lim(X),X<0,v(Y),Y<X?"), "0");
        Checks.same("the greatest number", Checks.ask(house, "lim(X),X>0,v(Y),Y>X,Y<a?"), "0");
        Checks.same("SYMBOLS above it", Checks.ask(house, "lim(X),X>0,v(Y),Y>X?"), "17");
    }

    private static void equalsByValues() {
        Edges.questionTaken("1: ", "1=1?");
        Edges.questionTaken("1: ", "007=7?");
        Edges.questionTaken("1: ", "-0=0?");
        Edges.questionTaken("0: ", "-1=1?");
        Edges.questionTaken("1: ", "-1!=1?");
        Edges.questionTaken("1: ", "a=a?");
        Edges.questionTaken("0: ", "a!=a?");
        Edges.questionTaken("0: ", "a=aa?");
        Edges.questionTaken("0: ", "a1=a01?");
        Edges.questionTaken("1: ", "1!=a?");
        Edges.questionTaken("0: ", "1<1?");
        Edges.questionTaken("1: ", "1<=1?");
        Edges.questionTaken("0: ", "1>1?");
        Edges.questionTaken("1: ", "1>=1?");
        Edges.questionTaken("0: ", "a<a?");
        Edges.questionTaken("1: ", "a<=a?");
        Edges.questionTaken("0: ", "a>a?");
        Edges.questionTaken("1: ", "a>=a?");
        Edges.questionTaken("1: ", "999999999<a?");
        Edges.questionTaken("0: ", "a<999999999?");
    }
}
