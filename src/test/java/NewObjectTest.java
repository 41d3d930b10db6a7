/** Promise 1. */
public final class NewObjectTest {
    public static void main(String[] args) {
        RuleHouse house = new RuleHouse();
        Checks.same("totals", Checks.totals(house), "0 0 0 0 0 1 0 0 0");
        Checks.same("fault", Checks.faultOf(house), "0@0");
        Checks.same("predicate 0", house.predicate(0, 0), RuleHouse.NONE);
        Checks.same("tuple", Checks.tuple(house, 0, 0, 0), "none");
        Checks.same("round", Checks.round(house, 0, 0), "none");
        Checks.same("answer", Checks.answer(house, 0, 0), "none");
        Checks.same("solve tells the MODEL that is there", Checks.solve(house), "0");
        Checks.same("it counts not as made", house.total(8), 0);

        house = new RuleHouse();
        Checks.same("a QUESTION without ATOMS", Checks.answers(house, "X = 2?"), "1: 2");
        Checks.same("one that does not hold", Checks.answers(house, "1 = 2?"), "0: ");
        Checks.same("no predicates to ask", Checks.ask(house, "p(1)?"), "2@0");
        Checks.same("no predicates for a FACT", Checks.fact(house, "p(1).", 1), "2@0");

        RuleHouse other = Checks.solved("p(1).");
        Checks.same("objects share nothing", Checks.totals(new RuleHouse()), "0 0 0 0 0 1 0 0 0");
        Checks.same("the other one has its own", other.total(6), 1);
        Checks.finish();
    }
}
