/** Boundaries of THE TAPE and of promise 2, sentence by sentence. */
public final class TapeEdgeTest {
    private static final String SEVEN = "       ";

    public static void main(String[] args) {
        takesOneToEight();
        refusesOtherN();
        takesThirtyTwoToHundredTwentySix();
        looksAtEachByte();
        holdsSixHundred();
        isCutAtSixHundred();
        refusesWholeWords();
        isEmptyBehindEachReading();
        Checks.finish();
    }

    /** "The n (1 .. 8) lowest bytes of word, the highest first, go to the tape: true". */
    private static void takesOneToEight() {
        String text = "pred12(12345678,abcdef,-9).";
        for (int n = 1; n <= 8; n++) {
            RuleHouse house = new RuleHouse();
            for (int from = 0; from < text.length(); from += n) {
                int many = Math.min(n, text.length() - from);
                long word = Checks.packed(text.substring(from, from + many));
                // What stands above the n lowest bytes is not looked at, be it no character.
                long above = many == 8 ? 0 : -1L << (8 * many);
                Checks.same("n " + n + " from " + from, house.type(above | word, many), true);
            }
            Checks.same("program " + n, Checks.program(house, ""), "0");
            Checks.same("NAME " + n, Checks.nameOf(house, 0), "pred12");
            Checks.solve(house);
            Checks.same("FACT " + n, Checks.tuples(house, 0), "12345678,abcdef,-9:0");
        }
    }

    /** "false, changing nothing, for another n". */
    private static void refusesOtherN() {
        int[] others = {0, 9, -1, -8, 16, 64, 65, 257, Integer.MIN_VALUE, Integer.MAX_VALUE};
        for (int n : others) {
            RuleHouse house = Edges.settled();
            Checks.ask(house, "p(");
            String before = Checks.everything(house);
            Checks.type(house, "p(1");
            Checks.same("n " + n, house.type(Checks.packed("22222222"), n), false);
            Checks.same("all stays " + n, Checks.everything(house), before);
            Checks.same("the FAULT stays " + n, Checks.faultOf(house), "1@2");
            Checks.same("the tape stays " + n, Checks.fact(house, "9).", 1), "true");
            Checks.same("19 came " + n, Checks.fact(house, "p(19).", 1), "false");
        }
    }

    /** "THE TAPE has at most 600 characters, 32 .. 126"; "false, changing nothing, for .. a byte". */
    private static void takesThirtyTwoToHundredTwentySix() {
        for (int one = 0; one < 256; one++) {
            boolean good = one >= 32 && one <= 126;
            RuleHouse house = new RuleHouse();
            Checks.type(house, SEVEN);
            Checks.same("byte " + one, house.type(one, 1), good);
            Checks.type(house, SEVEN);
            // With the character the text is wrong at it, or ends too early, at 15.
            String told = Checks.ask(house, "");
            Checks.same("on the tape " + one, told.equals("1@14"), !good);
        }
        Checks.same("31", new RuleHouse().type(31, 1), false);
        Checks.same("32", new RuleHouse().type(32, 1), true);
        Checks.same("126", new RuleHouse().type(126, 1), true);
        Checks.same("127", new RuleHouse().type(127, 1), false);
    }

    private static void looksAtEachByte() {
        int[] bad = {0, 31, 127, 128, 255};
        for (int one : bad) {
            for (int n = 1; n <= 8; n++) {
                for (int at = 0; at < n; at++) {
                    long hole = ~(255L << (8 * at));
                    long word = 0x2020202020202020L & hole | (long) one << (8 * at);
                    RuleHouse house = new RuleHouse();
                    Checks.same("byte " + one + " at " + at + " of " + n, house.type(word, n), false);
                    Checks.same("nothing came", Checks.ask(house, " "), "1@1");
                    if (at > 0) {
                        Checks.same("above the n lowest ones", house.type(word, at), true);
                        Checks.same("these came", Checks.ask(house, ""), "1@" + at);
                    }
                }
            }
        }
    }

    /** ".. or if it would have more than 600". */
    private static void holdsSixHundred() {
        String good = "p(1)." + " ".repeat(590) + "p(2).";
        RuleHouse house = new RuleHouse();
        Checks.same("592", Checks.type(house, good.substring(0, 592)), true);
        Checks.same("600 with eight more", house.type(Checks.packed(good.substring(592)), 8), true);
        for (int n = 1; n <= 8; n++) {
            Checks.same("600 and " + n, house.type(Checks.packed("........"), n), false);
        }
        Checks.same("600 are read", Checks.program(house, ""), "0");
        Checks.same("both FACTS", house.total(4), 2);
        Checks.same("empty again", Checks.type(house, good.substring(0, 593)), true);
        Checks.same("601 with eight more", house.type(Checks.packed("........"), 8), false);
        Checks.same("600 with seven more", house.type(Checks.packed(good.substring(593)), 7), true);
        Checks.same("a 601st", house.type('.', 1), false);
        Checks.same("600 are read again", Checks.program(house, ""), "0");
        Checks.same("both FACTS again", house.total(4), 2);
        Checks.same("599", Checks.type(house, good.substring(0, 599)), true);
        Checks.same("601 with two more", house.type(Checks.packed(".."), 2), false);
        Checks.same("it ends too early then", Checks.program(house, ""), "1@599");
        Checks.same("600 blanks", Checks.type(house, " ".repeat(600)), true);
        Checks.same("are an empty PROGRAM", Checks.program(house, ""), "0");
        Checks.same("600 blanks", Checks.type(house, " ".repeat(600)), true);
        Checks.same("are no QUESTION", Checks.ask(house, ""), "1@600");
    }

    /** With 600 characters each kind of TOKEN may be cut by the tape's end. */
    private static void isCutAtSixHundred() {
        String[] ends = {"p", "p(X", "p(123456789", "p(1", "p(abcdef", "p(", "p(1)", "p(1):-", "p(1):-1<", "p(1):-1<=",
            "p(1):-1>", "p(1):-!", "p(1):-1!="};
        for (String end : ends) {
            RuleHouse house = new RuleHouse();
            // Something longer was there before.
            Checks.program(house, "9".repeat(600));
            Checks.same(end, Checks.program(house, " ".repeat(600 - end.length()) + end), "1@600");
        }
        Checks.same(":", Checks.program(new RuleHouse(), " ".repeat(595) + "p(1):"), "1@599");
        // As many TOKENS as characters.
        RuleHouse house = new RuleHouse();
        Checks.same("600 TOKENS", Checks.program(house, "p(1).".repeat(120)), "0");
        Checks.same("600 that end too early", Checks.program(house, "p(1).".repeat(119) + "p(1,2"), "1@600");
        Checks.same("600 that end with a FAULT", Checks.program(house, "p(1).".repeat(119) + "p(1)?"), "1@599");
        // What stood behind a shorter text before is not read.
        Checks.same("a long one", Checks.program(house, "p(123456789123456789)."), "1@2");
        Checks.same("a number at the end", Checks.program(house, "p(123456789"), "1@11");
        Checks.same("a long one", Checks.program(house, "p(1):-p(abcdefgh)."), "1@8");
        Checks.same("a NAME at the end", Checks.program(house, "p(1):-p(abcdef"), "1@14");
        Checks.same("a sign", Checks.program(house, "p(1):-1<=2."), "1");
        Checks.same("half of it at the end", Checks.program(house, "p(1):-1<"), "1@8");
        Checks.same("the other half", Checks.program(house, "p(1):"), "1@4");
    }

    /** A word that is refused leaves out its good bytes, too. */
    private static void refusesWholeWords() {
        RuleHouse house = new RuleHouse();
        Checks.type(house, "p(1).");
        Checks.same("a good byte ahead", house.type(Checks.packed("~\u0007"), 2), false);
        Checks.same("a good byte behind", house.type(Checks.packed("\u0007~"), 2), false);
        Checks.same("nothing came", Checks.program(house, ""), "0");
        Checks.same("one FACT", house.total(4), 1);
    }

    /** "The tape (which is empty then in any case)", and likewise of fact() and ask(). */
    private static void isEmptyBehindEachReading() {
        RuleHouse house = Edges.settled();
        Checks.same("a QUESTION", Checks.ask(house, "p(X)?"), "2");
        Edges.tapeIsEmpty("a QUESTION", house);
        Checks.same("one with a FAULT", Checks.ask(house, "p(X)? ~"), "1@6");
        Edges.tapeIsEmpty("one with a FAULT", house);
        Checks.same("a FACT that is there", Checks.fact(house, "p(1).", 1), "false");
        Edges.tapeIsEmpty("a FACT that is there", house);
        Checks.same("a FACT with a FAULT", Checks.fact(house, "p(1,2).", 1), "2@0");
        Edges.tapeIsEmpty("a FACT with a FAULT", house);
        Checks.same("another how", Checks.fact(house, "p(3).", 2), "0@0");
        Edges.tapeIsEmpty("another how", house);
        Checks.same("a FACT", Checks.fact(house, "p(3).", 1), "true");
        Edges.tapeIsEmpty("a FACT", house);
        Checks.same("without a MODEL", Checks.ask(house, "p(X)?"), "state");
        Edges.tapeIsEmpty("without a MODEL", house);
        Checks.same("a PROGRAM with a FAULT", Checks.program(house, "p(3)"), "1@4");
        Edges.tapeIsEmpty("a PROGRAM with a FAULT", house);
        Checks.same("a PROGRAM", Checks.program(house, "p(3)."), "0");
        Edges.tapeIsEmpty("a PROGRAM", house);
    }
}
