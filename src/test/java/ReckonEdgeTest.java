/** Boundaries of what is reckons, sentence by sentence. */
public final class ReckonEdgeTest {
    /** low has the least number, high the greatest one. */
    private static final String LIMITS = "low(L):-A is 999999999*2,L is A+147483650."
            + "high(H):-A is 999999999*2,H is A+147483649.";

    public static void main(String[] args) {
        wrapsAround();
        dividesTowardsZero();
        keepsTheSignOfWhatIsDivided();
        holdsNotDividedByZero();
        holdsNotWithASymbol();
        wrapsAroundInAQuestion();
        Checks.finish();
    }

    private static void reckoned(String left, String sign, String right, String due) {
        // By written NUMBERS, by VALUES of TUPLES, in a RULE and in a QUESTION.
        Edges.model("p(X):-X is " + left + sign + " " + right + ".", due.isEmpty() ? "" : due + ":1");
        Edges.model("p(X):-a(Y),b(Z),X is Y" + sign + "Z.a(" + left + ").b(" + right + ").",
                due.isEmpty() ? "" : due + ":1");
        RuleHouse house = Checks.solved("a(" + left + ").b(" + right + ").");
        Checks.same("asked " + left + sign + right, Checks.answers(house, "X is " + left + sign + " " + right + "?"),
                due.isEmpty() ? "0: " : "1: " + due);
        Checks.same("asked of TUPLES " + left + sign + right,
                Checks.answers(house, "X is Y" + sign + "Z,a(Y),b(Z)?"),
                due.isEmpty() ? "0: " : "1: " + due + "," + left + "," + right);
    }

    private static void atLimits(String body, String due) {
        Edges.model("p(X):-" + body + "." + LIMITS, due);
    }

    /** "is: numbers, wrapping". */
    private static void wrapsAround() {
        atLimits("low(X)", "-2147483648:2");
        atLimits("high(X)", "2147483647:2");
        atLimits("high(H),X is H+0", "2147483647:2");
        atLimits("high(H),X is H+1", "-2147483648:2");
        atLimits("high(H),X is 1+H", "-2147483648:2");
        atLimits("high(H),X is H+H", "-2:2");
        atLimits("high(H),X is H- -1", "-2147483648:2");
        atLimits("low(L),X is L-0", "-2147483648:2");
        atLimits("low(L),X is L-1", "2147483647:2");
        atLimits("low(L),X is L+ -1", "2147483647:2");
        atLimits("low(L),X is L+L", "0:2");
        atLimits("low(L),X is 0-L", "-2147483648:2");
        atLimits("high(H),X is 0-H", "-2147483647:2");
        atLimits("low(L),high(H),X is L+H", "-1:2");
        atLimits("low(L),high(H),X is H-L", "-1:2");
        atLimits("low(L),high(H),X is L-H", "1:2");
        atLimits("low(L),X is L*1", "-2147483648:2");
        atLimits("low(L),X is L* -1", "-2147483648:2");
        atLimits("low(L),X is L*2", "0:2");
        atLimits("high(H),X is H*2", "-2:2");
        atLimits("high(H),X is H*H", "1:2");
        atLimits("low(L),high(H),X is L*H", "-2147483648:2");
        atLimits("high(H),X is H* -1", "-2147483647:2");
        reckoned("999999999", "*", "999999999", "808348673");
        reckoned("999999999", "+", "999999999", "1999999998");
        reckoned("-999999999", "-", "999999999", "-1999999998");
        reckoned("-999999999", "*", "3", "1294967299");
        reckoned("65536", "*", "65536", "0");
        reckoned("65536", "*", "32768", "-2147483648");
        reckoned("46341", "*", "46341", "-2147479015");
        reckoned("46340", "*", "46340", "2147395600");
    }

    /** "/ towards 0". */
    private static void dividesTowardsZero() {
        reckoned("7", "/", "2", "3");
        reckoned("-7", "/", "2", "-3");
        reckoned("7", "/", "-2", "-3");
        reckoned("-7", "/", "-2", "3");
        reckoned("6", "/", "2", "3");
        reckoned("-6", "/", "2", "-3");
        reckoned("1", "/", "2", "0");
        reckoned("-1", "/", "2", "0");
        reckoned("1", "/", "-2", "0");
        reckoned("0", "/", "5", "0");
        reckoned("0", "/", "-5", "0");
        reckoned("5", "/", "1", "5");
        reckoned("5", "/", "-1", "-5");
        reckoned("999999999", "/", "999999999", "1");
        atLimits("low(L),X is L/1", "-2147483648:2");
        atLimits("low(L),X is L/ -1", "-2147483648:2");
        atLimits("low(L),X is L/2", "-1073741824:2");
        atLimits("low(L),X is L/L", "1:2");
        atLimits("low(L),high(H),X is L/H", "-1:2");
        atLimits("low(L),high(H),X is H/L", "0:2");
        atLimits("high(H),X is H/ -1", "-2147483647:2");
        atLimits("high(H),X is H/2", "1073741823:2");
    }

    /** "% with the sign of what is divided". */
    private static void keepsTheSignOfWhatIsDivided() {
        reckoned("7", "%", "4", "3");
        reckoned("-7", "%", "4", "-3");
        reckoned("7", "%", "-4", "3");
        reckoned("-7", "%", "-4", "-3");
        reckoned("8", "%", "4", "0");
        reckoned("-8", "%", "4", "0");
        reckoned("-8", "%", "-4", "0");
        reckoned("3", "%", "4", "3");
        reckoned("-3", "%", "4", "-3");
        reckoned("0", "%", "4", "0");
        reckoned("5", "%", "1", "0");
        reckoned("5", "%", "-1", "0");
        atLimits("low(L),X is L% -1", "0:2");
        atLimits("low(L),X is L%1", "0:2");
        atLimits("low(L),X is L%L", "0:2");
        atLimits("low(L),X is L%10", "-8:2");
        atLimits("low(L),X is L% -10", "-8:2");
        atLimits("low(L),X is 7%L", "7:2");
        atLimits("low(L),high(H),X is L%H", "-1:2");
        atLimits("low(L),high(H),X is H%L", "2147483647:2");
        atLimits("high(H),X is H%10", "7:2");
    }

    /** "it does not hold .. divided by 0". */
    private static void holdsNotDividedByZero() {
        String[] divided = {"1", "0", "-1", "999999999"};
        for (String left : divided) {
            reckoned(left, "/", "0", "");
            reckoned(left, "%", "0", "");
            reckoned(left, "/", "-0", "");
            reckoned(left, "%", "-0", "");
        }
        atLimits("low(L),X is L/0", "");
        atLimits("low(L),X is L%0", "");
        // 0 is no hindrance elsewhere.
        reckoned("5", "+", "0", "5");
        reckoned("5", "-", "0", "5");
        reckoned("5", "*", "0", "0");
        reckoned("0", "*", "5", "0");
        // Only those that divide by another one are left; none is taken for 0.
        Edges.model("p(X,Y):-a(X),Y is 6/X.a(-1).a(0).a(1).a(2).", "-1,-6:1 1,6:1 2,3:1");
        Edges.model("p(X,Y):-a(X),Y is 5%X.a(-1).a(0).a(1).a(2).", "-1,0:1 1,0:1 2,1:1");
        Edges.model("p(X):-a(X),X is 0/X.a(0).a(1).", "");
        Edges.model("p(1):-X=0,X is 1/0.", "");
    }

    /** "it does not hold with a SYMBOL". */
    private static void holdsNotWithASymbol() {
        String[] signs = {"+", "-", "*", "/", "%"};
        for (String sign : signs) {
            reckoned("a", sign, "1", "");
            reckoned("1", sign, "a", "");
            reckoned("a", sign, "a", "");
            reckoned("a", sign, "b", "");
            reckoned("0", sign, "a", "");
            reckoned("a", sign, "0", "");
            // A VARIABLE that is BOUND to a SYMBOL is not what is reckoned.
            Edges.model("p(X):-q(X),X is 8" + sign + "1.q(a).q(b).", "");
            Edges.model("p(Y):-q(X),Y is X" + sign + "1,Y=Y.q(a).", "");
        }
        Edges.model("p(Y):-q(X),Y is X+1.q(a).q(3).q(b).q(-4).", "-3:1 4:1");
    }

    private static void wrapsAroundInAQuestion() {
        RuleHouse house = Checks.solved(LIMITS);
        Checks.same("up", Checks.answers(house, "high(H),X is H+1?"), "1: 2147483647,-2147483648");
        Checks.same("down", Checks.answers(house, "low(L),X is L-1?"), "1: -2147483648,2147483647");
        Checks.same("times", Checks.answers(house, "low(L),X is L* -1?"), "1: -2147483648,-2147483648");
        Checks.same("divided", Checks.answers(house, "low(L),X is L/ -1?"), "1: -2147483648,-2147483648");
        Checks.same("rest", Checks.answers(house, "low(L),X is L% -1?"), "1: -2147483648,0");
        Checks.same("what is wrapped is compared", Checks.answers(house, "high(H),X is H+1,X<H?"),
                "1: 2147483647,-2147483648");
        Checks.same("and is a TUPLE", Checks.answers(house, "high(H),X is H+1,low(X)?"),
                "1: 2147483647,-2147483648");
        Checks.same("answer", house.answer(0, 1), -2147483648L);
        Checks.same("answer", house.answer(0, 0), 2147483647L);
        Checks.same("tuple", house.tuple(0, 0, 0), -2147483648L);
    }
}
