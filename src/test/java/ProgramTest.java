/** Promise 3. */
public final class ProgramTest {
    public static void main(String[] args) {
        tellsRules();
        replacesAll();
        keepsAllWithFault();
        holdsThirtyRules();
        holdsSixteenPredicates();
        Checks.finish();
    }

    private static void tellsRules() {
        RuleHouse house = new RuleHouse();
        Checks.same("an empty PROGRAM", Checks.program(house, ""), "0");
        Checks.same("an empty PROGRAM leaves no MODEL", Checks.totals(house), "0 0 0 0 0 0 0 0 0");
        Checks.same("blanks alone", Checks.program(house, "    "), "0");
        Checks.same("FACTS alone", Checks.program(house, "p(1). p(2). p(1). q(a,b,c,d)."), "0");
        Checks.same("each FACT once", Checks.totals(house), "0 0 2 0 3 0 0 1 0");
        Checks.same("RULES", Checks.program(house, "p(1).q(X):-p(X).q(X):-p(X).r(1):-1=1."), "3");
        Checks.same("the same RULE counts again", Checks.totals(house), "0 0 3 3 1 0 0 1 0");
        Checks.same("no blanks needed", Checks.program(house, "p(Y):-q(X),Y is-1+X,!r(_),X!=-2."), "1");
        Checks.same("numbers with zeros ahead are the same",
                Checks.program(house, "p(7).p(007).p(-0).p(0)."), "0");
        Checks.same("each once", house.total(4), 2);
        Checks.same("a NUMBER goes on into a NAME without a blank",
                Checks.program(house, "p(X):-q(X),X>1 ,Y is X/2,Y=Y."), "1");
        Checks.same("the tape is empty behind it", Checks.program(house, "p(1)."), "0");
        Checks.same("one FACT", house.total(4), 1);
    }

    private static void replacesAll() {
        RuleHouse house = Checks.solved("p(1).p(2).q(X):-p(X).");
        Checks.same("a QUESTION", Checks.answers(house, "p(X),q(X)?"), "2: 1 2");
        Checks.same("another PROGRAM", Checks.program(house, "a(x)."), "0");
        Checks.same("answers stay, no MODEL", Checks.totals(house), "1 2 1 0 1 0 0 1 1");
        Checks.same("an answer stays", Checks.answer(house, 1, 0), "2");
        Checks.same("no MODEL to ask", Checks.ask(house, "a(X)?"), "state");
        Checks.same("no TUPLES", house.predicate(0, 4), 0);
        Checks.same("solve", Checks.solve(house), "1");
        Checks.same("MODELS are of all PROGRAMS together", house.total(8), 2);
        Checks.same("old predicates are gone", Checks.ask(house, "p(X)?"), "2@0");
        Checks.same("the old answers are still there", Checks.totals(house), "1 2 1 0 1 1 1 1 2");
    }

    private static void keepsAllWithFault() {
        RuleHouse house = Checks.solved("p(1).q(X):-p(X).");
        Checks.answers(house, "q(X)?");
        String before = Checks.totals(house);
        Checks.same("FAULT 1", Checks.program(house, "a(1). b(2"), "1@9");
        Checks.same("FAULT 2", Checks.program(house, "a(1). a(1,2)."), "2@6");
        Checks.same("FAULT 3", Checks.program(house, "a(X) :- b(Y)."), "3@2");
        Checks.same("FAULT 4", Checks.program(house, "a(X) :- b(X), !a(X)."), "4@14");
        Checks.same("all stays", Checks.totals(house), before);
        Checks.same("the MODEL stays", Checks.tuples(house, 1), "1:1");
        Checks.same("NAMES stay", Checks.nameOf(house, 1), "q");
        Checks.same("the tape is empty behind a FAULT", Checks.ask(house, "q(1)?"), "1");
        Checks.same("FAULT 0 again", Checks.faultOf(house), "0@0");
    }

    private static void holdsThirtyRules() {
        RuleHouse house = new RuleHouse();
        String thirty = "p(X):-q(X).".repeat(30);
        Checks.same("30 RULES", Checks.program(house, thirty), "30");
        Checks.same("30 RULES and FACTS", Checks.program(house, thirty + "q(1). p(3)."), "30");
        Checks.same("its RULES", house.predicate(0, 2), 30);
        Checks.same("31 RULES", Checks.program(house, thirty + " p(1):-q(1)."), "1@331");
        Checks.same("its HEAD's own goes ahead", Checks.program(house, thirty + "p(_):-q(1)."), "1@332");
        Checks.same("its BODY's does not", Checks.program(house, thirty + "p(X):-~."), "1@330");
        Checks.same("met at its :-", Checks.program(house, thirty + "p(X) ~"), "1@335");
        Checks.same("a FACT with a VARIABLE is no RULE", Checks.program(house, thirty + "p(X)."),
                "1@332");
    }

    private static void holdsSixteenPredicates() {
        StringBuilder text = new StringBuilder();
        for (int i = 0; i < 16; i++) {
            text.append("p").append((char) ('a' + i)).append("(1).");
        }
        RuleHouse house = new RuleHouse();
        Checks.same("16", Checks.program(house, text.toString()), "0");
        Checks.same("16 predicates", house.total(2), 16);
        Checks.same("16 TUPLES", Checks.solve(house), "16");
        Checks.same("of the last one", Checks.tuples(house, 15), "1:0");
        Checks.same("asked", Checks.answers(house, "pp(X),pa(Y),!pp(2)?"), "1: 1,1");
        Checks.same("16 again", Checks.program(house, text + "pa(2)."), "0");
        Checks.same("a 17th HEAD", Checks.program(house, text + "q(1)."), "1@96");
        Checks.same("a 17th HEAD without (", Checks.program(house, text + " q ."), "1@97");
        Checks.same("a 17th in a BODY", Checks.program(house, text + "pa(X):-pb(X),q(X)."), "1@109");
        Checks.same("a NAME in a relation is none", Checks.program(house, text + "pa(X):-pb(X),X=q."),
                "1");
        Checks.same("nor one ahead of something wrong",
                Checks.program(house, text + "pa(X):-pb(X),q."), "1@110");
        Checks.same("a 17th behind !", Checks.program(house, text + "pa(X):-pb(X),!q."), "1@110");
        Checks.same("a 17th in a QUESTION is FAULT 2", Checks.ask(house, "q(1)?"), "2@0");
    }
}
