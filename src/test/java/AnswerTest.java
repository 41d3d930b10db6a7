/** Promise 8. */
public final class AnswerTest {
    public static void main(String[] args) {
        tellsValues();
        tellsNone();
        keepsAnswers();
        Checks.finish();
    }

    private static void tellsValues() {
        RuleHouse house = Checks.solved("p(a). p(abcdef). p(z9). p(-7). p(999999999). p(a0). p(0).");
        Checks.same("answers", Checks.ask(house, "p(X),Y=X?"), "7");
        long[] due = {-7, 0, 999999999, 72057594037928033L, Checks.symbol("a0"), Checks.symbol("abcdef"),
            Checks.symbol("z9")};
        for (int i = 0; i < due.length; i++) {
            Checks.same("answer " + i, house.answer(i, 0), due[i]);
            Checks.same("its second VARIABLE " + i, house.answer(i, 1), due[i]);
        }
        Checks.same("abcdef", house.answer(5, 0), (1L << 56) + 0x616263646566L);
        Checks.ask(house, "X is 999999999*3?");
        Checks.same("a number below 0", house.answer(0, 0), -1294967299L);
    }

    private static void tellsNone() {
        RuleHouse house = Checks.solved("p(1,2). p(3,4).");
        Checks.same("no QUESTION as yet", Checks.answer(house, 0, 0), "none");
        Checks.ask(house, "p(X,Y)?");
        int[][] wrong = {{-1, 0}, {2, 0}, {0, -1}, {0, 2}, {1, 2}, {Integer.MIN_VALUE, 0},
            {Integer.MAX_VALUE, 0}, {0, Integer.MIN_VALUE}, {0, Integer.MAX_VALUE}};
        for (int[] one : wrong) {
            Checks.same("answer " + one[0] + " " + one[1], Checks.answer(house, one[0], one[1]), "none");
        }
        Checks.same("the last one", Checks.answer(house, 1, 1), "4");
        Checks.ask(house, "p(1,2)?");
        Checks.same("an answer without VALUES", Checks.answer(house, 0, 0), "none");
        Checks.ask(house, "p(X,9)?");
        Checks.same("no answers", Checks.answer(house, 0, 0), "none");
    }

    private static void keepsAnswers() {
        RuleHouse house = Checks.solved("p(1). p(b).");
        Checks.ask(house, "p(X)?");
        Checks.fact(house, "p(b).", 0);
        Checks.same("behind fact()", Checks.answer(house, 1, 0), "b");
        Checks.solve(house);
        Checks.same("behind solve()", Checks.answer(house, 1, 0), "b");
        Checks.program(house, "q(7).");
        Checks.same("behind program()", Checks.answer(house, 1, 0), "b");
        Checks.ask(house, "q(X)?");
        Checks.same("behind an ask() without a MODEL", Checks.answer(house, 1, 0), "b");
        Checks.ask(house, "q(X,Y)?");
        Checks.same("behind an ask() with a FAULT", Checks.answer(house, 1, 0), "b");
        Checks.solve(house);
        Checks.ask(house, "q(X)?");
        Checks.same("another one is answered", Checks.answer(house, 0, 0), "7");
        Checks.same("its only one", Checks.answer(house, 1, 0), "none");
    }
}
