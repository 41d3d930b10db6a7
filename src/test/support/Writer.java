import java.util.ArrayList;
import java.util.LinkedHashMap;
import java.util.List;
import java.util.Map;
import java.util.Random;

/** Writes texts for the tape: mostly good ones, some at the document's limits, some spoilt. */
final class Writer {
    private static final String[] NAMES = {"p", "q", "r", "s", "t", "edge", "n1", "abcdef"};
    private static final String[] FEW = {"X", "Y", "Z", "W", "V", "Ab1z"};
    private static final String[] MANY = {"X", "Y", "Z", "W", "V", "Ab1z", "U", "Xy", "T"};
    private static final String[] VALUES = {"0", "1", "2", "3", "4", "5", "-1", "- 2", "a", "b", "c",
        "ab", "a1", "a1b", "abc", "z9", "999999999", "-999999999", "007"};
    private static final String[] RELATIONS = {"=", "!=", "<", "<=", ">", ">="};
    private static final String[] OPERATIONS = {"+", "-", "*", "/", "%"};
    private static final String[] WORDS = {"count", "sum", "least", "most"};
    private static final String[] SCRAPS = {"(", ")", ",", ".", "?", "!", "_", ":-", "=", "!=", "<",
        "<=", ">", ">=", "+", "-", "*", "/", "%", "is", "count", "sum", "least", "most", "p", "q", "X",
        "Y", "7", "abcdefg", "Abcde", "1234567890", ":", "#", "~", " ", "  ", "@", "a", "(X)", "p(X)",
        "!q(X)", "n(X)", "n(Z),n(W)", "m(X,Y)", "m(_,X)", "(1", "[", "`", "{", "_)", ", _"};

    private final Random random;
    private final Map<String, Integer> arity = new LinkedHashMap<>();
    /** The NAMES that texts use now: those above, or those of the PROGRAM that there is. */
    private final List<String> names = new ArrayList<>();
    private String[] variables = FEW;

    Writer(Random random) {
        this.random = random;
        forget();
    }

    /** New numbers of ARGUMENTS for all NAMES; now and then they are wide, with many VARIABLES. */
    void forget() {
        arity.clear();
        boolean wide = rare(4);
        variables = wide ? MANY : FEW;
        for (String name : NAMES) {
            int narrow = 1 + random.nextInt(rare(4) ? 4 : 2);
            arity.put(name, wide ? 4 - random.nextInt(2) : narrow);
        }
    }

    /** QUESTIONS and FACTS are mostly about predicates that there are. */
    private void useNamesOf(RuleHouse house) {
        names.clear();
        for (int p = 0; p < house.total(2); p++) {
            names.add(Checks.nameOf(house, p));
            arity.put(Checks.nameOf(house, p), house.predicate(p, 0));
        }
        if (names.isEmpty()) {
            names.addAll(List.of(NAMES));
        }
    }

    String program() {
        names.clear();
        names.addAll(List.of(NAMES));
        int kind = random.nextInt(20);
        if (kind == 0) {
            return manyRules();
        }
        if (kind == 1) {
            return manyPredicates();
        }
        StringBuilder text = new StringBuilder(kind < 5 ? growing() : "");
        int facts = random.nextInt(12);
        int rules = random.nextInt(7);
        while (facts + rules > 0) {
            boolean isFact = random.nextInt(facts + rules) < facts;
            text.append(isFact ? fact() : rule()).append(blank());
            if (isFact) {
                facts--;
            } else {
                rules--;
            }
        }
        return cut(spoil(text.toString(), 5));
    }

    String oneFact(RuleHouse house) {
        useNamesOf(house);
        return spoil(fact(), 8);
    }

    String question(RuleHouse house) {
        useNamesOf(house);
        int kind = random.nextInt(12);
        List<String> bound = new ArrayList<>();
        String text = kind == 0 ? manyVariables() : kind == 1 ? growingQuestion()
                : body(bound, false, "");
        return spoil(text + "?", 8);
    }

    /** Numbers up to some bound, and pairs of them: near 200 TUPLES, or answers. */
    private String growing() {
        int most = rare(2) ? 180 + random.nextInt(30) : random.nextInt(25);
        String text = "n(" + random.nextInt(4) + ").n(Y):-n(X),Y is X+1,Y<" + most + ".";
        if (rare(2)) {
            text += "m(X,Y):-n(X),n(Y)" + (rare(2) ? ",X<" + random.nextInt(20) : "") + ".";
        }
        if (rare(3)) {
            text += "m(X," + pick(WORDS) + "(Y)):-n(X),n(Y),X<=Y.";
        }
        return text;
    }

    private String manyRules() {
        StringBuilder text = new StringBuilder();
        int rules = 28 + random.nextInt(5);
        for (int i = 0; i < rules; i++) {
            text.append("p(X):-q(X).");
        }
        return cut(spoil(text.toString(), 4));
    }

    private String manyPredicates() {
        StringBuilder text = new StringBuilder();
        int many = 14 + random.nextInt(4);
        for (int i = 0; i < many; i++) {
            String name = "k" + (char) ('a' + i);
            int form = random.nextInt(4);
            text.append(form == 0 ? name + "(1)." : form == 1 ? "ka(X):-" + name + "(X)."
                    : form == 2 ? name + "(2):-!zz(1)." : "kb(count(X)):-" + name + "(X),X<3.");
        }
        return cut(spoil(text.toString(), 4));
    }

    private String growingQuestion() {
        String text = rare(2) ? "n(X),n(Y)" : "n(X),!m(X,_)";
        return text + (rare(2) ? "" : ",X<" + random.nextInt(200));
    }

    private String manyVariables() {
        StringBuilder text = new StringBuilder();
        int many = 6 + random.nextInt(4);
        int literals = 1 + random.nextInt(7);
        int next = 0;
        for (int i = 0; i < literals; i++) {
            text.append(i == 0 ? "" : ",");
            String variable = "" + (char) ('A' + next % 26);
            next++;
            text.append(variable).append(" = ").append(i);
        }
        while (next < many) {
            text.append(",").append((char) ('A' + next)).append(" = 1");
            next++;
        }
        return text.toString();
    }

    private String fact() {
        String name = name();
        StringBuilder text = new StringBuilder(name).append("(");
        int many = argumentsOf(name);
        for (int k = 0; k < many; k++) {
            text.append(k == 0 ? "" : "," + blank()).append(rare(300) ? "X" : value());
        }
        return text.append(").").toString();
    }

    private String rule() {
        List<String> bound = new ArrayList<>();
        boolean total = random.nextInt(5) == 0;
        String name = name();
        String body = body(bound, total, name);
        StringBuilder text = new StringBuilder(name).append("(");
        int many = argumentsOf(name);
        int totalAt = total ? random.nextInt(many) : -1;
        for (int k = 0; k < many; k++) {
            text.append(k == 0 ? "" : ",");
            if (k == totalAt || rare(200)) {
                text.append(pick(WORDS)).append("(").append(onlyVariable(bound)).append(")");
            } else {
                text.append(rare(5) ? value() : variable(bound));
            }
        }
        return text.append(")").append(blank()).append(":-").append(body).append(".").toString();
    }

    private String body(List<String> bound, boolean total, String head) {
        StringBuilder text = new StringBuilder();
        int atoms = rare(10) ? 0 : rare(3) ? 2 : rare(8) ? 3 : rare(50) ? 4 : 1;
        int others = rare(30) ? 5 : random.nextInt(3);
        List<String> parts = new ArrayList<>();
        for (int i = 0; i < atoms; i++) {
            parts.add(atom(bound, total ? 300 : 8, false, total && !rare(30) ? head : ""));
        }
        for (int i = 0; i < others; i++) {
            parts.add(other(bound, head));
        }
        if (parts.isEmpty()) {
            parts.add(other(bound, head));
        }
        // Now and then a test stands ahead of what binds it.
        if (rare(3)) {
            java.util.Collections.shuffle(parts, random);
        }
        for (String part : parts) {
            text.append(text.length() == 0 ? "" : "," + blank()).append(part);
        }
        return text.toString();
    }

    private String atom(List<String> bound, int rareAnything, boolean absent, String without) {
        String name = name();
        for (int tries = 0; tries < 5 && name.equals(without); tries++) {
            name = name();
        }
        StringBuilder text = new StringBuilder(name).append("(");
        int many = argumentsOf(name);
        for (int k = 0; k < many; k++) {
            text.append(k == 0 ? "" : ",");
            if (rare(rareAnything)) {
                text.append("_");
            } else if (rare(6)) {
                text.append(value());
            } else if (absent) {
                text.append(variable(bound));
            } else {
                String variable = pick(variables);
                bound.add(variable);
                text.append(variable);
            }
        }
        return text.append(")").toString();
    }

    private String other(List<String> bound, String head) {
        switch (random.nextInt(7)) {
            case 0:
            case 1:
                return "!" + atom(bound, 5, true, head);
            case 2:
            case 3:
                return "" + term(bound) + blank() + pick(RELATIONS) + term(bound);
            case 4:
                String equal = rare(3) ? onlyVariable(bound) : pick(variables);
                String side = term(bound);
                bound.add(equal);
                return rare(2) ? equal + "=" + side : side + " = " + equal;
            default:
                String result = rare(4) ? onlyVariable(bound) : pick(variables);
                String text = result + " is " + term(bound) + pick(OPERATIONS) + term(bound);
                bound.add(result);
                return text;
        }
    }

    private String term(List<String> bound) {
        return rare(2) ? value() : variable(bound);
    }

    private String variable(List<String> bound) {
        if (bound.isEmpty()) {
            return rare(4) ? pick(variables) : value();
        }
        return rare(60) ? pick(variables) : bound.get(random.nextInt(bound.size()));
    }

    private String onlyVariable(List<String> bound) {
        return bound.isEmpty() ? pick(variables) : variable(bound);
    }

    private String value() {
        return rare(3) ? pick(VALUES) : VALUES[random.nextInt(5)];
    }

    private String name() {
        return rare(80) ? pick(NAMES) : names.get(random.nextInt(Math.min(names.size(), 6)));
    }

    private int argumentsOf(String name) {
        return rare(400) ? 1 + random.nextInt(5) : arity.get(name);
    }

    private String blank() {
        return rare(4) ? " " : "";
    }

    private boolean rare(int one) {
        return random.nextInt(one) == 0;
    }

    private String pick(String[] from) {
        return from[random.nextInt(from.length)];
    }

    /** One text in so many gets a scrap too much, or loses some characters. */
    private String spoil(String text, int one) {
        if (!rare(one) || text.isEmpty()) {
            return text;
        }
        int at = random.nextInt(text.length() + 1);
        int end = Math.min(text.length(), at + random.nextInt(4));
        String scrap = rare(4) ? "" : pick(SCRAPS);
        return text.substring(0, at) + scrap + text.substring(end);
    }

    private static String cut(String text) {
        return text.length() > 600 ? text.substring(0, 600) : text;
    }
}
