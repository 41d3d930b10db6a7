/** Promise 9. */
public final class TotalTest {
    public static void main(String[] args) {
        RuleHouse house = new RuleHouse();
        int[] others = {-1, 9, 10, 100, Integer.MIN_VALUE, Integer.MAX_VALUE};
        for (int what : others) {
            Checks.same("total " + what, house.total(what), RuleHouse.NONE);
        }
        Checks.same("new", Checks.totals(house), "0 0 0 0 0 1 0 0 0");
        Checks.program(house, "p(1). p(2). q(X):-p(X),!r(X). r(2). s(count(X)):-q(X). s(X):-s(X).");
        Checks.same("a PROGRAM", Checks.totals(house), "0 0 4 3 3 0 0 3 0");
        Checks.solve(house);
        Checks.same("solved", Checks.totals(house), "0 0 4 3 3 1 5 3 1");
        Checks.ask(house, "p(X),p(Y),p(_)?");
        Checks.same("asked", Checks.totals(house), "2 4 4 3 3 1 5 3 1");
        Checks.ask(house, "p(A)");
        Checks.same("a QUESTION with a FAULT", Checks.totals(house), "2 4 4 3 3 1 5 3 1");
        Checks.fact(house, "r(1).", 1);
        Checks.same("a FACT comes", Checks.totals(house), "2 4 4 3 4 0 0 3 1");
        Checks.solve(house);
        Checks.same("solved again", Checks.totals(house), "2 4 4 3 4 1 4 3 2");
        Checks.program(house, "n(1). n(Y):-n(X),Y is X+1.");
        Checks.solve(house);
        Checks.same("TOO MANY", Checks.totals(house), "2 4 1 1 1 2 0 1 3");
        Checks.program(house, "");
        Checks.same("an empty PROGRAM", Checks.totals(house), "2 4 0 0 0 0 0 0 3");
        Checks.solve(house);
        Checks.same("its MODEL", Checks.totals(house), "2 4 0 0 0 1 0 0 4");
        Checks.program(house, "a(1):-!b(1). b(1):-!c(1). c(1):-!d(1). e(1).");
        Checks.same("strata", house.total(7), 4);
        Checks.finish();
    }
}
