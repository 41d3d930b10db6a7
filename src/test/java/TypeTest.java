/** Promise 2. */
public final class TypeTest {
    public static void main(String[] args) {
        ordersBytes();
        refusesOthers();
        holdsSixHundred();
        Checks.finish();
    }

    private static void ordersBytes() {
        RuleHouse house = new RuleHouse();
        Checks.same("eight bytes", house.type(Checks.packed("ab(1). c"), 8), true);
        Checks.same("higher bytes are left out", house.type(Checks.packed("zz(2)."), 4), true);
        Checks.same("program", Checks.program(house, ""), "0");
        Checks.same("first NAME", Checks.nameOf(house, 0), "ab");
        Checks.same("second NAME", Checks.nameOf(house, 1), "c");
        Checks.same("FACTS", house.total(4), 2);

        house = new RuleHouse();
        Checks.same("bytes above n may be anything", house.type(0xFFFFFFFFFFFFFF00L | 'p', 1), true);
        Checks.type(house, "(1).");
        Checks.same("program", Checks.program(house, ""), "0");
        Checks.same("FACTS", house.total(4), 1);
    }

    private static void refusesOthers() {
        RuleHouse house = new RuleHouse();
        int[] lengths = {0, 9, -1, Integer.MIN_VALUE, Integer.MAX_VALUE};
        for (int n : lengths) {
            Checks.same("n " + n, house.type(Checks.packed("aaaaaaaa"), n), false);
        }
        int[] bytes = {0, 31, 127, 128, 255, 10, 9};
        for (int one : bytes) {
            Checks.same("byte " + one, house.type(one, 1), false);
            Checks.same("byte first " + one, house.type((long) one << 56 | Checks.packed("aaaaaaa"), 8),
                    false);
            Checks.same("byte last " + one, house.type('a' * 256 + one, 2), false);
        }
        Checks.same("0 above the only letter", house.type('a', 2), false);
        Checks.same("nothing came to the tape", Checks.program(house, "p(1)."), "0");
        Checks.same("nothing came to the tape, FACTS", house.total(4), 1);
        Checks.same("32", house.type(32, 1), true);
        Checks.same("126", house.type(126, 1), true);
        Checks.same("126 is on the tape", Checks.program(house, ""), "1@1");
    }

    private static void holdsSixHundred() {
        RuleHouse full = new RuleHouse();
        Checks.type(full, "p(1).".repeat(120));
        Checks.same("as many CLAUSES as can be", Checks.program(full, ""), "0");
        Checks.same("600 TOKENS", Checks.type(full, "(".repeat(600)), true);
        Checks.same("600 TOKENS are read", Checks.program(full, ""), "1@0");
        Checks.type(full, "p(1)." + "!".repeat(595));
        Checks.same("600 TOKENS are read on", Checks.program(full, ""), "1@5");
        RuleHouse house = new RuleHouse();
        for (int i = 0; i < 74; i++) {
            Checks.same("blanks " + i, house.type(0x2020202020202020L, 8), true);
        }
        Checks.same("599", house.type(0x20202020202020L, 7), true);
        Checks.same("601 would be too many", house.type(Checks.packed("(1"), 2), false);
        Checks.same("600", house.type('p', 1), true);
        Checks.same("601", house.type('p', 1), false);
        Checks.same("ends at 600", Checks.program(house, ""), "1@600");
        Checks.same("empty again", house.type(Checks.packed("p(1).   "), 8), true);
        Checks.same("read", Checks.program(house, ""), "0");
        Checks.same("FACTS", house.total(4), 1);
    }
}
