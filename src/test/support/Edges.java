/**
 * Texts on both sides of a boundary. In a marked text a ^ (which is no TOKEN) stands ahead of the
 * place where the FAULT is due, and is not typed. Whatever is refused must leave all as it was.
 */
final class Edges {
    /** What may stand behind a FAULT, and must not be met: each would be another one. */
    private static final String[] BEHIND = {" ~", " .~", " ?~", " ),~", ",1=1.~", "(1).~", " 1+1.~"};

    /** p has 1 ARGUMENT, q 2, t 4, r 1. */
    private static final String STANDARD = "p(1).p(a).q(1,2).q(a,b).t(1,2,3,4).r(X):-p(X).";

    /** What totals of settled() tell. */
    private static final String TOTALS = "2 2 4 1 5 1 7 1 1";

    private Edges() {
    }

    /** With a MODEL and an answered QUESTION, so that there is something to lose. */
    static RuleHouse settled() {
        RuleHouse house = Checks.solved(STANDARD);
        Checks.ask(house, "q(X,Y)?");
        return house;
    }

    static void programTaken(int rules, String text) {
        RuleHouse house = settled();
        Checks.same("program " + text, Checks.program(house, text), rules);
        Checks.same("no FAULT: " + text, Checks.faultOf(house), "0@0");
        Checks.same("its RULES, no MODEL: " + text, house.total(3) + " " + house.total(5), rules + " 0");
        Checks.same("the answers stay: " + text, Checks.toldAnswers(house), "1,2 a,b");
        tapeIsEmpty(text, house);
    }

    static void programRefused(int kind, String marked) {
        RuleHouse house = settled();
        String before = Checks.everything(house);
        Checks.same("program " + marked, Checks.program(house, text(marked)), due(kind, marked));
        stays(marked, house, before);
        house = settled();
        for (String behind : behind(kind, marked)) {
            Checks.same("program " + marked + behind, Checks.program(house, text(marked) + behind),
                    dueBehind(kind, marked));
        }
        Checks.same("totals stay: " + marked, Checks.totals(house), TOTALS);
    }

    /** Of the predicates of settled(), and not there as yet. */
    static void factTaken(String text) {
        RuleHouse house = settled();
        String before = Checks.everything(house);
        Checks.same("not there: " + text, Checks.fact(house, text, 0), "false");
        stays(text, house, before);
        Checks.same("comes: " + text, Checks.fact(house, text, 1), "true");
        Checks.same("no FAULT: " + text, Checks.faultOf(house), "0@0");
        Checks.same("FACTS, no MODEL: " + text, house.total(4) + " " + house.total(5), "6 0");
        tapeIsEmpty(text, house);
        Checks.same("goes: " + text, Checks.fact(house, text, 0), "true");
        Checks.same("FACTS as before: " + text, house.total(4), 5);
    }

    static void factRefused(int kind, String marked) {
        RuleHouse house = settled();
        String before = Checks.everything(house);
        for (int how = 0; how <= 1; how++) {
            Checks.same("fact " + how + " " + marked, Checks.fact(house, text(marked), how),
                    due(kind, marked));
        }
        stays(marked, house, before);
        house = settled();
        for (String behind : behind(kind, marked)) {
            Checks.same("fact " + marked + behind, Checks.fact(house, text(marked) + behind, 1),
                    dueBehind(kind, marked));
        }
        Checks.same("totals stay: " + marked, Checks.totals(house), TOTALS);
    }

    /** With the answers as Checks.answers tells them. */
    static void questionTaken(String answers, String text) {
        RuleHouse house = settled();
        Checks.same("ask " + text, Checks.answers(house, text), answers);
        Checks.same("no FAULT: " + text, Checks.faultOf(house), "0@0");
        tapeIsEmpty(text, house);
    }

    static void questionRefused(int kind, String marked) {
        RuleHouse house = settled();
        String before = Checks.everything(house);
        Checks.same("ask " + marked, Checks.ask(house, text(marked)), due(kind, marked));
        stays(marked, house, before);
        house = settled();
        for (String behind : behind(kind, marked)) {
            Checks.same("ask " + marked + behind, Checks.ask(house, text(marked) + behind),
                    dueBehind(kind, marked));
        }
        Checks.same("totals stay: " + marked, Checks.totals(house), TOTALS);
    }

    /** The TUPLES of predicate 0, each with its round. */
    static void model(String text, String due) {
        RuleHouse house = Checks.house(text);
        Checks.same("no FAULT: " + text, Checks.faultOf(house), "0@0");
        Checks.same("solved: " + text, Checks.solve(house), house.total(6));
        Checks.same(text, Checks.tuples(house, 0), due);
    }

    static void stays(String what, RuleHouse house, String before) {
        Checks.same("all stays: " + what, Checks.everything(house), before);
        tapeIsEmpty(what, house);
    }

    static void tapeIsEmpty(String what, RuleHouse house) {
        Checks.same("the tape is empty: " + what, Checks.ask(house, ""), "1@0");
    }

    /** FACTS p(from). to p(to). */
    static String facts(String name, int from, int to) {
        StringBuilder all = new StringBuilder();
        for (int i = from; i <= to; i++) {
            all.append(name).append("(").append(i).append(").");
        }
        return all.toString();
    }

    static String text(String marked) {
        return marked.replace("^", "");
    }

    /**
     * What is put behind a refused text: behind a FAULT 1 anything (if the text does not end too
     * early), behind another one something that is no TOKEN.
     */
    private static String[] behind(int kind, String marked) {
        if (kind != 1) {
            return new String[] {"~"};
        }
        return marked.endsWith("^") ? new String[0] : BEHIND;
    }

    /** A text is read on to the first FAULT 1; that goes ahead of the others. */
    private static String dueBehind(int kind, String marked) {
        return kind == 1 ? due(1, marked) : "1@" + text(marked).length();
    }

    private static String due(int kind, String marked) {
        return kind + "@" + marked.indexOf('^');
    }
}
