/** Promise 11. */
public final class TupleTest {
    public static void main(String[] args) {
        RuleHouse house = Checks.house("q(0). p(b,1). p(a,2). p(10,x). p(9,x). p(-1,5). p(a,-2). p(a1,0). "
                + "p(ab,0). p(a,ab). r(X,Y,Z,3):-p(X,Y),q(Z),X<10.");
        Checks.same("no MODEL", Checks.tuple(house, 0, 0, 0), "none");
        Checks.same("solve", Checks.solve(house), "12");
        Checks.same("in order", Checks.tuples(house, 1),
                "-1,5:0 9,x:0 10,x:0 a,-2:0 a,2:0 a,ab:0 a1,0:0 ab,0:0 b,1:0");
        Checks.same("four ARGUMENTS", Checks.tuples(house, 2), "-1,5,0,3:1 9,x,0,3:1");
        Checks.same("a number", house.tuple(1, 0, 0), -1);
        Checks.same("a SYMBOL", house.tuple(1, 5, 1), (1L << 56) + 0x6162);
        Checks.same("a SYMBOL of one letter", house.tuple(1, 3, 0), 72057594037928033L);
        int[][] wrong = {{-1, 0, 0}, {3, 0, 0}, {0, 1, 0}, {0, -1, 0}, {0, 0, 1}, {0, 0, -1}, {1, 9, 0},
            {1, 0, 2}, {2, 2, 0}, {2, 0, 4}, {Integer.MAX_VALUE, 0, 0}, {Integer.MIN_VALUE, 0, 0},
            {0, Integer.MAX_VALUE, 0}, {0, Integer.MIN_VALUE, 0}, {0, 0, Integer.MAX_VALUE},
            {0, 0, Integer.MIN_VALUE}};
        for (int[] one : wrong) {
            Checks.same("tuple " + one[0] + " " + one[1] + " " + one[2],
                    Checks.tuple(house, one[0], one[1], one[2]), "none");
        }
        Checks.program(house, "p(7");
        Checks.same("a FAULT leaves them", Checks.tuple(house, 0, 0, 0), "0");
        Checks.fact(house, "q(1).", 1);
        Checks.same("no MODEL again", Checks.tuple(house, 1, 0, 0), "none");
        Checks.solve(house);
        Checks.same("in the order of all ARGUMENTS", Checks.tuples(house, 2),
                "-1,5,0,3:1 -1,5,1,3:1 9,x,0,3:1 9,x,1,3:1");
        Checks.finish();
    }
}
