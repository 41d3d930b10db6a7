import java.util.Random;
import java.util.function.LongSupplier;

/**
 * All promises: runs of calls by chance (with a fixed seed), each answered by RuleHouse and by the
 * Oracle. Arguments: how many runs, the first seed.
 */
public final class OracleTest {
    private static final int RUNS = 400;
    private static final StringBuilder history = new StringBuilder();
    private static final int[] outcomes = new int[12];
    private static int calls = 0;

    private RuleHouse house = new RuleHouse();
    private Oracle oracle = new Oracle();
    private final Random random;
    private final Writer writer;

    private OracleTest(long seed) {
        random = new Random(seed);
        writer = new Writer(random);
    }

    public static void main(String[] args) {
        int runs = args.length > 0 ? Integer.parseInt(args[0]) : RUNS;
        long first = args.length > 1 ? Long.parseLong(args[1]) : 1;
        int tired = 0;
        for (long seed = first; seed < first + runs; seed++) {
            history.setLength(0);
            try {
                new OracleTest(seed).run();
            } catch (Oracle.Tired stop) {
                tired++;
            }
        }
        System.out.println(calls + " calls, " + tired + " runs cut short; programs good "
                + outcomes[0] + ", faults " + outcomes[1] + " " + outcomes[2] + " " + outcomes[3] + " "
                + outcomes[4] + "; models " + outcomes[5] + ", too many " + outcomes[6]
                + "; questions good " + outcomes[7] + ", faults " + outcomes[8] + ", state " + outcomes[9]);
    }

    private void run() {
        int rounds = 1 + random.nextInt(4);
        for (int i = 0; i < rounds; i++) {
            if (random.nextInt(4) == 0) {
                writer.forget();
            }
            enter(writer.program());
            long told = both("program()", () -> house.program(), () -> oracle.program());
            outcomes[told < -1 ? house.fault(0) : 0]++;
            look();
            model();
            for (int j = random.nextInt(4); j > 0; j--) {
                enter(writer.oneFact(house));
                int how = random.nextInt(20) == 0 ? 2 : random.nextInt(3) == 0 ? 0 : 1;
                both("fact(" + how + ")", () -> house.fact(how) ? 1 : 0, () -> oracle.fact(how) ? 1 : 0);
                look();
                if (random.nextInt(3) == 0) {
                    question();
                }
                model();
            }
        }
    }

    private void model() {
        long told = both("solve()", () -> house.solve(), () -> oracle.solve());
        outcomes[told < -1 ? 6 : 5]++;
        look();
        for (int p = 0; p < house.total(2); p++) {
            tuples(p);
        }
        for (int j = random.nextInt(5); j > 0; j--) {
            question();
        }
    }

    private void question() {
        enter(writer.question(house));
        long told = both("ask()", () -> house.ask(), () -> oracle.ask());
        outcomes[told >= 0 ? 7 : house.fault(0) != 0 ? 8 : 9]++;
        look();
        for (int i = 0; i <= house.total(1); i++) {
            for (int k = 0; k <= house.total(0); k++) {
                int row = i;
                int at = k;
                both("answer(" + i + "," + k + ")", () -> house.answer(row, at),
                        () -> oracle.answer(row, at));
            }
        }
    }

    private void tuples(int p) {
        for (int i = -1; i <= house.predicate(p, 4); i++) {
            int row = i;
            both("round(" + p + "," + i + ")", () -> house.round(p, row), () -> oracle.round(p, row));
            for (int k = -1; k <= house.predicate(p, 0); k++) {
                int at = k;
                both("tuple(" + p + "," + i + "," + k + ")", () -> house.tuple(p, row, at),
                        () -> oracle.tuple(p, row, at));
            }
        }
    }

    /** All that can be told without changing anything. */
    private void look() {
        for (int what = -1; what <= 9; what++) {
            int one = what;
            both("fault(" + what + ")", () -> house.fault(one), () -> oracle.fault(one));
            both("total(" + what + ")", () -> house.total(one), () -> oracle.total(one));
        }
        for (int p = -1; p <= house.total(2); p++) {
            int number = p;
            for (int what = -1; what <= 7; what++) {
                int one = what;
                both("predicate(" + p + "," + what + ")", () -> house.predicate(number, one),
                        () -> oracle.predicate(number, one));
                both("predicate(" + p + "," + (what + 100) + ")",
                        () -> house.predicate(number, one + 100), () -> oracle.predicate(number, one + 100));
            }
        }
    }

    private void enter(String text) {
        history.append('\n').append(text).append('\n');
        for (int from = 0; from < text.length();) {
            int n = Math.min(1 + random.nextInt(8), text.length() - from);
            long word = Checks.packed(text.substring(from, from + n));
            both("type(" + word + "," + n + ")", () -> house.type(word, n) ? 1 : 0,
                    () -> oracle.type(word, n) ? 1 : 0);
            from += n;
        }
    }

    /** What both answered; an exception is a number far below all answers. */
    private long both(String call, LongSupplier ours, LongSupplier theirs) {
        calls++;
        long got = answer(ours);
        long due = answer(theirs);
        if (got != due) {
            System.out.println(history + call + " answered " + got + ", due is " + due);
            System.exit(1);
        }
        if (call.startsWith("program") || call.startsWith("fact") || call.startsWith("solve")
                || call.startsWith("ask")) {
            history.append(call).append(" -> ").append(got).append('\n');
        }
        return got;
    }

    private static long answer(LongSupplier call) {
        try {
            return call.getAsLong();
        } catch (IllegalArgumentException e) {
            return Long.MIN_VALUE;
        } catch (IllegalStateException e) {
            return Long.MIN_VALUE + 1;
        } catch (java.util.NoSuchElementException e) {
            return Long.MIN_VALUE + 2;
        }
    }
}
