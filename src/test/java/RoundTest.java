/** Promise 12. */
public final class RoundTest {
    public static void main(String[] args) {
        RuleHouse house = Checks.house("n(1). n(5). n(Y):-n(X),Y is X+1,Y<8. m(X):-n(X),!o(X). o(X):-n(X),X>4. "
                + "m(Y):-m(X),Y is X*10,Y<300. c(count(X)):-m(X). c(99).");
        Checks.same("no MODEL", Checks.round(house, 0, 0), "none");
        Checks.solve(house);
        Checks.same("FACTS are of round 0", Checks.tuples(house, 0), "1:0 2:1 3:2 4:3 5:0 6:1 7:2");
        Checks.same("rounds of the next stratum", Checks.tuples(house, 1),
                "1:1 2:1 3:1 4:1 10:2 20:2 30:2 40:2 100:3 200:3");
        Checks.same("from a round of the same stratum", Checks.tuples(house, 2), "5:1 6:2 7:3");
        Checks.same("a TOTAL is of round 1", Checks.tuples(house, 3), "10:1 99:0");
        Checks.same("the first in which it comes",
                Checks.tuples(Checks.solved("p(X):-q(X). p(Y):-p(X),e(X,Y). q(1). e(1,2). e(2,1). e(2,3). "
                        + "e(1,3)."), 0), "1:1 2:2 3:2");
        int[][] wrong = {{-1, 0}, {4, 0}, {0, -1}, {0, 7}, {3, 2}, {Integer.MAX_VALUE, 0},
            {Integer.MIN_VALUE, 0}, {0, Integer.MAX_VALUE}, {0, Integer.MIN_VALUE}};
        for (int[] one : wrong) {
            Checks.same("round " + one[0] + " " + one[1], Checks.round(house, one[0], one[1]), "none");
        }
        Checks.fact(house, "n(1).", 0);
        Checks.same("no MODEL again", Checks.round(house, 0, 0), "none");
        Checks.solve(house);
        Checks.same("made again", Checks.tuples(house, 0), "5:0 6:1 7:2");
        Checks.finish();
    }
}
