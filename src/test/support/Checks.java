import java.util.NoSuchElementException;

/** What the tests share: texts for the tape, and answers and exceptions as texts to compare. */
final class Checks {
    private static int wrong = 0;
    private static int checked = 0;

    private Checks() {
    }

    static void same(String what, Object got, Object want) {
        checked++;
        if (!String.valueOf(got).equals(String.valueOf(want))) {
            wrong++;
            System.out.println(what + " answered " + got + ", due is " + want);
        }
    }

    static void finish() {
        System.out.println(checked + " checked, " + wrong + " wrong");
        if (wrong != 0) {
            System.exit(1);
        }
    }

    static RuleHouse house(String text) {
        RuleHouse house = new RuleHouse();
        program(house, text);
        return house;
    }

    static RuleHouse solved(String text) {
        RuleHouse house = house(text);
        solve(house);
        return house;
    }

    static boolean type(RuleHouse house, String text) {
        boolean good = true;
        for (int from = 0; from < text.length(); from += 8) {
            int n = Math.min(8, text.length() - from);
            good &= house.type(packed(text.substring(from, from + n)), n);
        }
        return good;
    }

    /** For texts that must find room on the tape: one that does not would be another text. */
    private static void enter(RuleHouse house, String text) {
        if (!type(house, text)) {
            same("typed " + text, false, true);
        }
    }

    static long packed(String letters) {
        long word = 0;
        for (int i = 0; i < letters.length(); i++) {
            word = word * 256 + letters.charAt(i);
        }
        return word;
    }

    static long symbol(String name) {
        return (1L << 56) + packed(name);
    }

    static String faultOf(RuleHouse house) {
        return house.fault(0) + "@" + house.fault(1);
    }

    /** The number of RULES, or the FAULT as kind@place behind an IllegalArgumentException. */
    static String program(RuleHouse house, String text) {
        enter(house, text);
        try {
            return String.valueOf(house.program());
        } catch (IllegalArgumentException e) {
            return faultOf(house);
        }
    }

    static String fact(RuleHouse house, String text, int how) {
        enter(house, text);
        try {
            return String.valueOf(house.fact(how));
        } catch (IllegalArgumentException e) {
            return faultOf(house);
        } catch (IllegalStateException e) {
            return "state";
        }
    }

    static String solve(RuleHouse house) {
        try {
            return String.valueOf(house.solve());
        } catch (IllegalStateException e) {
            return "state";
        }
    }

    static String ask(RuleHouse house, String text) {
        enter(house, text);
        try {
            return String.valueOf(house.ask());
        } catch (IllegalArgumentException e) {
            return faultOf(house);
        } catch (IllegalStateException e) {
            return "state";
        }
    }

    /** The answers to a QUESTION, as told by answer(), or what ask() told instead. */
    static String answers(RuleHouse house, String text) {
        String told = ask(house, text);
        if (told.equals("state") || told.indexOf('@') >= 0) {
            return told;
        }
        return told + ": " + toldAnswers(house);
    }

    /** The answers to the latest QUESTION that was answered. */
    static String toldAnswers(RuleHouse house) {
        StringBuilder all = new StringBuilder();
        for (int i = 0; i < house.total(1); i++) {
            all.append(i == 0 ? "" : " ");
            for (int k = 0; k < house.total(0); k++) {
                all.append(k == 0 ? "" : ",").append(answer(house, i, k));
            }
        }
        return all.toString();
    }

    static String answer(RuleHouse house, int i, int k) {
        try {
            return shown(house.answer(i, k));
        } catch (NoSuchElementException e) {
            return "none";
        }
    }

    static String tuple(RuleHouse house, int p, int i, int k) {
        try {
            return shown(house.tuple(p, i, k));
        } catch (NoSuchElementException e) {
            return "none";
        }
    }

    static String round(RuleHouse house, int p, int i) {
        try {
            return String.valueOf(house.round(p, i));
        } catch (NoSuchElementException e) {
            return "none";
        }
    }

    /** All TUPLES of a predicate, each with its round behind a colon. */
    static String tuples(RuleHouse house, int p) {
        StringBuilder all = new StringBuilder();
        for (int i = 0; i < house.predicate(p, 4); i++) {
            all.append(i == 0 ? "" : " ");
            for (int k = 0; k < house.predicate(p, 0); k++) {
                all.append(k == 0 ? "" : ",").append(tuple(house, p, i, k));
            }
            all.append(":").append(round(house, p, i));
        }
        return all.toString();
    }

    static String shown(long value) {
        if (value < 1L << 56) {
            return String.valueOf(value);
        }
        StringBuilder letters = new StringBuilder();
        for (long rest = value - (1L << 56); rest != 0; rest >>>= 8) {
            letters.append((char) (rest & 255));
        }
        return letters.reverse().toString();
    }

    static String nameOf(RuleHouse house, int p) {
        StringBuilder name = new StringBuilder();
        for (int i = 0; i < house.predicate(p, 5); i++) {
            name.append((char) house.predicate(p, 100 + i));
        }
        return name.toString();
    }

    /** All that the face tells but the FAULT: what a refused call must leave as it is. */
    static String everything(RuleHouse house) {
        StringBuilder all = new StringBuilder(totals(house));
        for (int p = 0; p < house.total(2); p++) {
            all.append(" | ").append(nameOf(house, p));
            for (int what = 0; what <= 4; what++) {
                all.append(" ").append(house.predicate(p, what));
            }
            all.append(" ").append(tuples(house, p));
        }
        return all.append(" | ").append(toldAnswers(house)).toString();
    }

    static String totals(RuleHouse house) {
        StringBuilder all = new StringBuilder();
        for (int what = 0; what <= 8; what++) {
            all.append(what == 0 ? "" : " ").append(house.total(what));
        }
        return all.toString();
    }
}
