/** Promise 10. */
public final class PredicateTest {
    public static void main(String[] args) {
        tellsOrderAndNames();
        tellsStrata();
        tellsCounts();
        tellsNone();
        Checks.finish();
    }

    private static void tellsOrderAndNames() {
        RuleHouse house = Checks.house("zz(1,2). b1(X):-abcdef(X,_,_),!q(X,1,2,3),zz(X,X). a(1). q(1,2,3,4).");
        String[] names = {"zz", "b1", "abcdef", "q", "a"};
        int[] arguments = {2, 1, 3, 4, 1};
        Checks.same("predicates", house.total(2), 5);
        for (int p = 0; p < 5; p++) {
            Checks.same("name " + p, Checks.nameOf(house, p), names[p]);
            Checks.same("letters " + p, house.predicate(p, 5), names[p].length());
            Checks.same("ARGUMENTS " + p, house.predicate(p, 0), arguments[p]);
            Checks.same("no letter " + p, house.predicate(p, 100 + names[p].length()), RuleHouse.NONE);
        }
        Checks.same("a letter", house.predicate(1, 101), '1' + 0);
        Checks.same("the sixth letter", house.predicate(2, 105), 'f' + 0);
        Checks.same("a seventh letter", house.predicate(2, 106), RuleHouse.NONE);
    }

    private static String strata(String text) {
        RuleHouse house = Checks.house(text);
        StringBuilder all = new StringBuilder();
        for (int p = 0; p < house.total(2); p++) {
            all.append(house.predicate(p, 1));
        }
        return all.toString();
    }

    private static void tellsStrata() {
        Checks.same("FACTS", strata("a(1). b(1)."), "00");
        Checks.same("without !", strata("a(X):-b(X). b(X):-c(X)."), "000");
        Checks.same("with !", strata("a(X):-b(X),!c(X). c(X):-d(X),!e(X)."), "20100");
        Checks.same("a TOTAL", strata("a(count(X)):-b(X). b(X):-c(X),a1(X)."), "1000");
        Checks.same("a TOTAL with !", strata("a(count(X)):-b(X),!c(X). c(X):-b(X),!d(X)."), "2010");
        Checks.same("carried", strata("a(X):-b(X). b(X):-a(X). b(X):-c(X). c(1):-!d(1)."), "1110");
        Checks.same("the highest one asked", strata("a(X):-b(X),c(X). b(X):-d(X),!e(X). c(count(X)):-b(X)."),
                "21200");
        Checks.same("in the order against the text", strata("a(1):-!b(1). b(1):-!c(1). c(1):-!d(1)."),
                "3210");
        Checks.same("sixteen", strata("a(1):-!b(1).b(1):-!c(1).c(1):-!d(1).d(1):-!e(1).e(1):-!f(1)."
                + "f(1):-!g(1).g(1):-!h(1).h(1):-!i(1).i(1):-!j(1).j(1):-!k(1).k(1):-!l(1).l(1):-!m(1)."
                + "m(1):-!n(1).n(1):-!o(1).o(1):-!p(1)."), "1514131211109876543210");
    }

    private static void tellsCounts() {
        RuleHouse again = Checks.house("a(1):-!b(1).");
        Checks.program(again, "");
        Checks.program(again, "a(1).");
        Checks.same("strata of an old PROGRAM are forgotten", again.predicate(0, 1), 0);
        Checks.same("and how many there were", again.total(7), 1);
        RuleHouse house = Checks.house("p(1). p(2). q(X):-p(X). q(X):-p(Y),X is Y+5. q(9).");
        Checks.same("RULES", house.predicate(0, 2) + " " + house.predicate(1, 2), "0 2");
        Checks.same("FACTS", house.predicate(0, 3) + " " + house.predicate(1, 3), "2 1");
        Checks.same("no MODEL", house.predicate(0, 4) + " " + house.predicate(1, 4), "0 0");
        Checks.solve(house);
        Checks.same("TUPLES", house.predicate(0, 4) + " " + house.predicate(1, 4), "2 5");
        Checks.fact(house, "q(5).", 1);
        Checks.same("FACTS now", house.predicate(0, 3) + " " + house.predicate(1, 3), "2 2");
        Checks.same("no MODEL again", house.predicate(0, 4) + " " + house.predicate(1, 4), "0 0");
        Checks.fact(house, "p(1).", 0);
        Checks.same("FACTS then", house.predicate(0, 3) + " " + house.predicate(1, 3), "1 2");
    }

    private static void tellsNone() {
        RuleHouse house = Checks.solved("p(1). q(2).");
        int[] wrong = {-1, 2, 16, Integer.MIN_VALUE, Integer.MAX_VALUE};
        for (int p : wrong) {
            for (int what = 0; what < 6; what++) {
                Checks.same("predicate " + p, house.predicate(p, what), RuleHouse.NONE);
            }
            Checks.same("letter of " + p, house.predicate(p, 100), RuleHouse.NONE);
        }
        int[] others = {-1, 6, 7, 50, 99, 101, 102, 106, 107, 200, Integer.MIN_VALUE, Integer.MAX_VALUE};
        for (int what : others) {
            Checks.same("what " + what, house.predicate(0, what), RuleHouse.NONE);
        }
        Checks.same("letter 0", house.predicate(1, 100), 'q' + 0);
    }
}
