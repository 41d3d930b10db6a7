import java.util.ArrayList;
import java.util.Comparator;
import java.util.HashMap;
import java.util.HashSet;
import java.util.LinkedHashMap;
import java.util.LinkedHashSet;
import java.util.List;
import java.util.Map;
import java.util.NoSuchElementException;
import java.util.Set;
import java.util.TreeMap;
import java.util.TreeSet;
import java.util.regex.Matcher;
import java.util.regex.Pattern;

/**
 * The document read a second time, as plainly as can be: sets of maps from VARIABLES to VALUES,
 * all RULES worked anew in each round. It is slow, and shares nothing with RuleHouse.
 */
final class Oracle {
    private static final Pattern TOKEN = Pattern.compile(
            "[a-z][a-z0-9]*|[A-Z][A-Za-z0-9]*|[0-9]+|:-|!=|<=|>=|[(),.?!_=<>+\\-*/%]");
    private static final Set<String> WORDS = Set.of("is", "count", "sum", "least", "most");
    private static final Set<String> RELATIONS = Set.of("=", "!=", "<", "<=", ">", ">=");
    private static final Set<String> OPERATIONS = Set.of("+", "-", "*", "/", "%");
    private static final int LIMIT = 200;

    private static final Comparator<Object> BY_VALUE = (a, b) -> {
        if (a instanceof Integer && b instanceof Integer) {
            return Integer.compare((Integer) a, (Integer) b);
        }
        if (a instanceof Integer || b instanceof Integer) {
            return a instanceof Integer ? -1 : 1;
        }
        return ((String) a).compareTo((String) b);
    };
    private static final Comparator<List<Object>> BY_ROW = (a, b) -> {
        for (int i = 0; i < a.size(); i++) {
            int order = BY_VALUE.compare(a.get(i), b.get(i));
            if (order != 0) {
                return order;
            }
        }
        return 0;
    };

    private record Token(String text, int place) {
        boolean isName() {
            return !text.isEmpty() && Character.isLowerCase(text.charAt(0)) && !WORDS.contains(text);
        }

        boolean isVariable() {
            return !text.isEmpty() && Character.isUpperCase(text.charAt(0));
        }

        boolean isNumber() {
            return !text.isEmpty() && Character.isDigit(text.charAt(0));
        }
    }

    /** kind: v a VALUE, x a VARIABLE, _ anything. */
    private record Term(char kind, Object value, int place) {
    }

    private record Atom(String name, int place, List<Term> terms) {
    }

    /** sign: "" an ATOM, "!" an absent one, a relation, or "is". */
    private record Literal(String sign, int place, Atom atom, List<Term> terms, String operation) {
    }

    private record Clause(Atom head, Token totalWord, int totalAt, List<Literal> body) {
    }

    private record Row(String name, List<Object> values) {
    }

    private static final class Refused extends RuntimeException {
        private static final long serialVersionUID = 1L;
        final int place;

        Refused(int place) {
            this.place = place;
        }
    }

    /** Not of the document: this run would take too long here. */
    static final class Tired extends RuntimeException {
        private static final long serialVersionUID = 1L;
    }

    private static final class TooMany extends RuntimeException {
        private static final long serialVersionUID = 1L;
    }

    /** How many more pairs of a way and a TUPLE this one looks at. */
    private long strength = 2_000_000;
    private StringBuilder tape = new StringBuilder();
    private LinkedHashMap<String, Integer> predicates = new LinkedHashMap<>();
    private List<Clause> rules = new ArrayList<>();
    private Set<Row> facts = new HashSet<>();
    private Map<String, Integer> strata = new HashMap<>();
    private Map<Row, Integer> model = new HashMap<>();
    private int state = 1;
    private int made;
    private int asked;
    private int faultKind;
    private int faultPlace;
    private List<String> answerNames = new ArrayList<>();
    private List<List<Object>> answers = new ArrayList<>();

    // While reading.
    private List<Token> tokens;
    private int at;
    private LinkedHashMap<String, Integer> variables;
    private Token totalWord;
    private int totalAt;
    private LinkedHashMap<String, Integer> readPredicates;
    private boolean reading;
    private TreeMap<Integer, Integer> found;

    boolean type(long word, int n) {
        if (n < 1 || n > 8 || tape.length() + n > 600) {
            return false;
        }
        String letters = "";
        for (int i = 0; i < n; i++) {
            letters = (char) ((word >> (8 * i)) & 255) + letters;
        }
        for (char one : letters.toCharArray()) {
            if (one < 32 || one > 126) {
                return false;
            }
        }
        tape.append(letters);
        return true;
    }

    int program() {
        List<Clause> read = new ArrayList<>();
        Set<Row> readFacts = new HashSet<>();
        begin(new LinkedHashMap<>(), true);
        try {
            while (!peek().text.isEmpty()) {
                readClause(read, readFacts);
            }
        } catch (Refused refused) {
            fail(1, refused.place);
        }
        if (faultKind == 0 && !found.isEmpty()) {
            fail(found.firstEntry().getValue(), found.firstKey());
        }
        if (faultKind == 0) {
            int hanging = hangingPlace(read);
            if (hanging >= 0) {
                fail(4, hanging);
            }
        }
        if (faultKind != 0) {
            throw new IllegalArgumentException();
        }
        predicates = readPredicates;
        rules = read;
        facts = readFacts;
        strata = strataOf();
        state = 0;
        return rules.size();
    }

    boolean fact(int how) {
        if (how != 0 && how != 1) {
            tape.setLength(0);
            faultKind = 0;
            faultPlace = 0;
            throw new IllegalArgumentException();
        }
        begin(predicates, false);
        Atom head = null;
        try {
            head = readHead();
            take(".");
            refuseLoose();
            take("");
        } catch (Refused refused) {
            fail(1, refused.place);
        }
        if (faultKind == 0 && !found.isEmpty()) {
            fail(2, found.firstKey());
        }
        if (faultKind != 0) {
            throw new IllegalArgumentException();
        }
        Row row = rowOf(head, Map.of());
        if (facts.contains(row) == (how == 1)) {
            return false;
        }
        if (how == 1 && facts.size() == LIMIT) {
            throw new IllegalStateException();
        }
        if (how == 1) {
            facts.add(row);
        } else {
            facts.remove(row);
        }
        state = 0;
        return true;
    }

    int fault(int what) {
        return what == 0 ? faultKind : what == 1 ? faultPlace : -1;
    }

    int solve() {
        if (state == 0) {
            if (made == 40) {
                throw new IllegalStateException();
            }
            made++;
            try {
                makeModel();
                state = 1;
            } catch (TooMany tooMany) {
                state = 2;
            }
        }
        if (state == 2) {
            throw new IllegalStateException();
        }
        return model.size();
    }

    int ask() {
        begin(predicates, false);
        List<Literal> body = null;
        try {
            startClause();
            body = readBody();
            take("?");
            take("");
            noteUnbound(body);
        } catch (Refused refused) {
            fail(1, refused.place);
        }
        if (faultKind == 0 && !found.isEmpty()) {
            fail(found.firstEntry().getValue(), found.firstKey());
        }
        if (faultKind != 0) {
            throw new IllegalArgumentException();
        }
        if (state != 1 || asked == 500) {
            throw new IllegalStateException();
        }
        List<String> names = new ArrayList<>(variables.keySet());
        TreeSet<List<Object>> rows = new TreeSet<>(BY_ROW);
        for (Map<String, Object> way : waysOf(body, model.keySet())) {
            List<Object> row = new ArrayList<>();
            for (String name : names) {
                row.add(way.get(name));
            }
            rows.add(row);
        }
        if (rows.size() > LIMIT) {
            throw new IllegalStateException();
        }
        asked++;
        answerNames = names;
        answers = new ArrayList<>(rows);
        return answers.size();
    }

    long answer(int i, int k) {
        if (i < 0 || i >= answers.size() || k < 0 || k >= answerNames.size()) {
            throw new NoSuchElementException();
        }
        return shown(answers.get(i).get(k));
    }

    int total(int what) {
        int highest = -1;
        for (int one : strata.values()) {
            highest = Math.max(highest, one);
        }
        int[] all = {answerNames.size(), answers.size(), predicates.size(), rules.size(),
            facts.size(), state, state == 1 ? model.size() : 0, highest + 1, made};
        return what < 0 || what >= all.length ? -1 : all[what];
    }

    int predicate(int p, int what) {
        if (p < 0 || p >= predicates.size()) {
            return -1;
        }
        String name = nameOf(p);
        if (what >= 100) {
            return what - 100 < name.length() ? name.charAt(what - 100) : -1;
        }
        int many = 0;
        switch (what) {
            case 0:
                return predicates.get(name);
            case 1:
                return strata.get(name);
            case 2:
                for (Clause rule : rules) {
                    many += rule.head.name.equals(name) ? 1 : 0;
                }
                return many;
            case 3:
                for (Row row : facts) {
                    many += row.name.equals(name) ? 1 : 0;
                }
                return many;
            case 4:
                return tuplesOf(p).size();
            case 5:
                return name.length();
            default:
                return -1;
        }
    }

    long tuple(int p, int i, int k) {
        List<List<Object>> rows = tuplesOf(p);
        if (i < 0 || i >= rows.size() || k < 0 || k >= rows.get(i).size()) {
            throw new NoSuchElementException();
        }
        return shown(rows.get(i).get(k));
    }

    int round(int p, int i) {
        List<List<Object>> rows = tuplesOf(p);
        if (i < 0 || i >= rows.size()) {
            throw new NoSuchElementException();
        }
        return model.get(new Row(nameOf(p), rows.get(i)));
    }

    private String nameOf(int p) {
        return new ArrayList<>(predicates.keySet()).get(p);
    }

    private List<List<Object>> tuplesOf(int p) {
        TreeSet<List<Object>> rows = new TreeSet<>(BY_ROW);
        if (p >= 0 && p < predicates.size() && state == 1) {
            for (Row row : model.keySet()) {
                if (row.name.equals(nameOf(p))) {
                    rows.add(row.values);
                }
            }
        }
        return new ArrayList<>(rows);
    }

    private static long shown(Object value) {
        if (value instanceof Integer) {
            return (Integer) value;
        }
        long letters = 0;
        for (char one : ((String) value).toCharArray()) {
            letters = letters << 8 | one;
        }
        return (1L << 56) + letters;
    }

    // Reading.

    private void begin(LinkedHashMap<String, Integer> known, boolean takesNew) {
        readPredicates = known;
        reading = takesNew;
        found = new TreeMap<>();
        faultKind = 0;
        faultPlace = 0;
        at = 0;
        tokens = new ArrayList<>();
        String text = tape.toString();
        tape.setLength(0);
        int from = 0;
        while (from < text.length()) {
            if (text.charAt(from) == ' ') {
                from++;
                continue;
            }
            Matcher matcher = TOKEN.matcher(text);
            matcher.region(from, text.length());
            String one = matcher.lookingAt() ? matcher.group() : "";
            tokens.add(new Token(one.isEmpty() || isTooLong(one) ? "\0" : one, from));
            from += Math.max(1, one.length());
        }
        tokens.add(new Token("", text.length()));
    }

    private static boolean isTooLong(String one) {
        char first = one.charAt(0);
        int most = Character.isDigit(first) ? 9 : Character.isUpperCase(first) ? 4 : 6;
        return one.length() > most;
    }

    private void fail(int kind, int place) {
        faultKind = kind;
        faultPlace = place;
    }

    private Token peek() {
        return tokens.get(at);
    }

    private Token next() {
        return tokens.get(at++);
    }

    private void take(String text) {
        if (!peek().text.equals(text)) {
            throw new Refused(peek().place);
        }
        if (!text.isEmpty()) {
            at++;
        }
    }

    private void startClause() {
        variables = new LinkedHashMap<>();
        totalWord = null;
        totalAt = -1;
    }

    private void readClause(List<Clause> read, Set<Row> readFacts) {
        int place = peek().place;
        Atom head = readHead();
        if (peek().text.equals(".")) {
            refuseLoose();
            at++;
            readFacts.add(rowOf(head, Map.of()));
            return;
        }
        take(":-");
        if (read.size() == 30) {
            throw new Refused(place);
        }
        List<Literal> body = readBody();
        take(".");
        noteUnbound(body);
        read.add(new Clause(head, totalWord, totalAt, body));
    }

    private void refuseLoose() {
        int loose = Integer.MAX_VALUE;
        for (int place : variables.values()) {
            loose = Math.min(loose, place);
        }
        if (totalWord != null) {
            loose = Math.min(loose, totalWord.place);
        }
        if (loose != Integer.MAX_VALUE) {
            throw new Refused(loose);
        }
    }

    private Atom readHead() {
        startClause();
        return readAtom("head");
    }

    private Atom readAtom(String role) {
        Token name = peek();
        if (!name.isName()) {
            throw new Refused(name.place);
        }
        boolean isNew = !readPredicates.containsKey(name.text);
        if (isNew && reading) {
            if (readPredicates.size() == 16) {
                throw new Refused(name.place);
            }
            readPredicates.put(name.text, 0);
        }
        at++;
        take("(");
        List<Term> terms = new ArrayList<>();
        terms.add(readArgument(role, 0));
        while (peek().text.equals(",")) {
            at++;
            if (terms.size() == 4) {
                throw new Refused(peek().place);
            }
            terms.add(readArgument(role, terms.size()));
        }
        take(")");
        if (isNew && reading) {
            readPredicates.put(name.text, terms.size());
        } else if (isNew || readPredicates.get(name.text) != terms.size()) {
            found.put(name.place, 2);
        }
        return new Atom(name.text, name.place, terms);
    }

    private Term readArgument(String role, int k) {
        Token token = peek();
        if (token.text.equals("_")) {
            if (role.equals("head") || role.isEmpty() && totalWord != null) {
                throw new Refused(token.place);
            }
            at++;
            return new Term('_', null, token.place);
        }
        boolean word = WORDS.contains(token.text) && !token.text.equals("is");
        if (!word || !role.equals("head")) {
            return readTerm();
        }
        if (totalWord != null) {
            throw new Refused(token.place);
        }
        totalWord = token;
        totalAt = k;
        at++;
        take("(");
        if (!peek().isVariable()) {
            throw new Refused(peek().place);
        }
        Term inner = readTerm();
        take(")");
        return inner;
    }

    private Term readTerm() {
        Token token = next();
        if (token.text.equals("-") && peek().isNumber()) {
            return new Term('v', -Integer.parseInt(next().text), token.place);
        }
        if (token.text.equals("-")) {
            throw new Refused(peek().place);
        }
        if (token.isNumber()) {
            return new Term('v', Integer.parseInt(token.text), token.place);
        }
        if (token.isName()) {
            return new Term('v', token.text, token.place);
        }
        if (!token.isVariable()) {
            throw new Refused(token.place);
        }
        if (!variables.containsKey(token.text)) {
            if (variables.size() == 8) {
                throw new Refused(token.place);
            }
            variables.put(token.text, token.place);
        }
        return new Term('x', token.text, token.place);
    }

    private List<Literal> readBody() {
        List<Literal> body = new ArrayList<>();
        int atoms = 0;
        while (true) {
            Token first = peek();
            if (body.size() == 6) {
                throw new Refused(first.place);
            }
            if (first.text.equals("!")) {
                at++;
                body.add(new Literal("!", first.place, readAtom("!"), null, null));
            } else if (first.isName() && tokens.get(at + 1).text.equals("(")) {
                if (atoms == 3) {
                    throw new Refused(first.place);
                }
                atoms++;
                body.add(new Literal("", first.place, readAtom(""), null, null));
            } else {
                body.add(readRelation());
            }
            if (!peek().text.equals(",")) {
                return body;
            }
            at++;
        }
    }

    private Literal readRelation() {
        Token first = peek();
        Term left = readTerm();
        Token sign = peek();
        if (sign.text.equals("is") && first.isVariable()) {
            at++;
            Term one = readTerm();
            Token operation = peek();
            if (!OPERATIONS.contains(operation.text)) {
                throw new Refused(operation.place);
            }
            at++;
            Term two = readTerm();
            return new Literal("is", first.place, null, List.of(left, one, two), operation.text);
        }
        if (!RELATIONS.contains(sign.text)) {
            throw new Refused(sign.place);
        }
        at++;
        return new Literal(sign.text, first.place, null, List.of(left, readTerm()), null);
    }

    // What is BOUND, what HANGS.

    private static boolean isIn(Term term, Set<String> bound) {
        return term.kind != 'x' || bound.contains((String) term.value);
    }

    private void noteUnbound(List<Literal> body) {
        Set<String> bound = new HashSet<>();
        for (Literal one : body) {
            if (one.sign.isEmpty()) {
                for (Term term : one.atom.terms) {
                    if (term.kind == 'x') {
                        bound.add((String) term.value);
                    }
                }
            }
        }
        for (int again = 0; again < 10; again++) {
            for (Literal one : body) {
                if (one.sign.equals("is") && isIn(one.terms.get(1), bound)
                        && isIn(one.terms.get(2), bound)) {
                    bound.add((String) one.terms.get(0).value);
                }
                if (one.sign.equals("=")) {
                    for (int side = 0; side < 2; side++) {
                        Term other = one.terms.get(1 - side);
                        if (isIn(one.terms.get(side), bound) && other.kind == 'x') {
                            bound.add((String) other.value);
                        }
                    }
                }
            }
        }
        for (Map.Entry<String, Integer> one : variables.entrySet()) {
            if (!bound.contains(one.getKey())) {
                found.put(one.getValue(), 3);
            }
        }
    }

    private static Set<String> hangsOn(String name, List<Clause> read) {
        Set<String> reached = new HashSet<>();
        List<String> open = new ArrayList<>(List.of(name));
        while (!open.isEmpty()) {
            String one = open.remove(0);
            for (Clause clause : read) {
                for (Literal literal : clause.body) {
                    if (clause.head.name.equals(one) && literal.atom != null
                            && reached.add(literal.atom.name)) {
                        open.add(literal.atom.name);
                    }
                }
            }
        }
        return reached;
    }

    private static int hangingPlace(List<Clause> read) {
        TreeSet<Integer> places = new TreeSet<>();
        for (Clause clause : read) {
            for (Literal literal : clause.body) {
                if (literal.atom == null) {
                    continue;
                }
                String asked = literal.atom.name;
                boolean back = asked.equals(clause.head.name)
                        || hangsOn(asked, read).contains(clause.head.name);
                if (back && clause.totalWord != null) {
                    places.add(clause.totalWord.place);
                }
                if (back && literal.sign.equals("!")) {
                    places.add(literal.place);
                }
            }
        }
        return places.isEmpty() ? -1 : places.first();
    }

    private Map<String, Integer> strataOf() {
        Map<String, Integer> all = new HashMap<>();
        for (String name : predicates.keySet()) {
            all.put(name, 0);
        }
        for (int again = 0; again < 400; again++) {
            for (Clause clause : rules) {
                for (Literal literal : clause.body) {
                    if (literal.atom != null) {
                        boolean above = literal.sign.equals("!") || clause.totalWord != null;
                        int least = all.get(literal.atom.name) + (above ? 1 : 0);
                        all.put(clause.head.name, Math.max(least, all.get(clause.head.name)));
                    }
                }
            }
        }
        return all;
    }

    // The MODEL.

    private void makeModel() {
        model = new HashMap<>();
        int highest = total(7);
        for (int stratum = 0; stratum < highest; stratum++) {
            for (Row row : facts) {
                if (strata.get(row.name) == stratum) {
                    model.put(row, 0);
                }
            }
            refuseTooMany();
            boolean more = true;
            for (int round = 1; more; round++) {
                Set<Row> before = new HashSet<>(model.keySet());
                Set<Row> given = new LinkedHashSet<>();
                for (Clause rule : rules) {
                    if (strata.get(rule.head.name) == stratum
                            && (rule.totalWord == null || round == 1)) {
                        work(rule, before, given);
                    }
                }
                given.removeAll(before);
                for (Row row : given) {
                    model.put(row, round);
                }
                more = !given.isEmpty();
                refuseTooMany();
            }
        }
    }

    private void refuseTooMany() {
        if (model.size() > LIMIT) {
            throw new TooMany();
        }
    }

    private void work(Clause rule, Set<Row> rows, Set<Row> given) {
        Set<Map<String, Object>> ways = waysOf(rule.body, rows);
        if (rule.totalWord == null) {
            for (Map<String, Object> way : ways) {
                given.add(rowOf(rule.head, way));
            }
            return;
        }
        Map<List<Object>, List<Object>> groups = new HashMap<>();
        for (Map<String, Object> way : ways) {
            List<Object> values = new ArrayList<>(rowOf(rule.head, way).values);
            Object counted = values.set(rule.totalAt, "");
            groups.computeIfAbsent(values, k -> new ArrayList<>()).add(counted);
        }
        for (Map.Entry<List<Object>, List<Object>> group : groups.entrySet()) {
            List<Object> values = new ArrayList<>(group.getKey());
            values.set(rule.totalAt, totalOf(rule.totalWord.text, group.getValue()));
            given.add(new Row(rule.head.name, values));
        }
    }

    private static Object totalOf(String word, List<Object> values) {
        if (word.equals("count")) {
            return values.size();
        }
        values.sort(BY_VALUE);
        if (word.equals("least")) {
            return values.get(0);
        }
        if (word.equals("most")) {
            return values.get(values.size() - 1);
        }
        int sum = 0;
        for (Object value : values) {
            sum += value instanceof Integer ? (Integer) value : 0;
        }
        return sum;
    }

    private static Object valueOf(Term term, Map<String, Object> way) {
        return term.kind == 'x' ? way.get((String) term.value) : term.value;
    }

    private static Row rowOf(Atom atom, Map<String, Object> way) {
        List<Object> values = new ArrayList<>();
        for (Term term : atom.terms) {
            values.add(valueOf(term, way));
        }
        return new Row(atom.name, values);
    }

    private Set<Map<String, Object>> waysOf(List<Literal> body, Set<Row> rows) {
        Set<Map<String, Object>> ways = new HashSet<>();
        ways.add(new HashMap<>());
        for (Literal one : body) {
            if (one.sign.isEmpty()) {
                Set<Map<String, Object>> wider = new HashSet<>();
                strength -= (long) ways.size() * rows.size();
                if (strength < 0) {
                    throw new Tired();
                }
                for (Map<String, Object> way : ways) {
                    for (Row row : rows) {
                        Map<String, Object> with = matched(one.atom, row, way);
                        if (with != null) {
                            wider.add(with);
                        }
                    }
                }
                ways = wider;
            }
        }
        Set<Map<String, Object>> all = new HashSet<>();
        for (Map<String, Object> way : ways) {
            Map<String, Object> whole = completed(body, way);
            strength -= body.size();
            if (whole != null && holdsAll(body, whole, rows)) {
                all.add(whole);
            }
        }
        return all;
    }

    private static Map<String, Object> matched(Atom atom, Row row, Map<String, Object> way) {
        if (!row.name.equals(atom.name)) {
            return null;
        }
        Map<String, Object> with = new HashMap<>(way);
        for (int k = 0; k < atom.terms.size(); k++) {
            Term term = atom.terms.get(k);
            Object value = row.values.get(k);
            if (term.kind == 'x') {
                with.putIfAbsent((String) term.value, value);
            }
            if (term.kind != '_' && !valueOf(term, with).equals(value)) {
                return null;
            }
        }
        return with;
    }

    /** Gives VALUES to what = and is bind; null, if an is can have none. */
    private static Map<String, Object> completed(List<Literal> body, Map<String, Object> way) {
        Map<String, Object> whole = new HashMap<>(way);
        for (int again = 0; again < 10; again++) {
            for (Literal one : body) {
                if (one.sign.equals("=")) {
                    for (int side = 0; side < 2; side++) {
                        Object value = valueOf(one.terms.get(side), whole);
                        Term other = one.terms.get(1 - side);
                        if (value != null && other.kind == 'x') {
                            whole.putIfAbsent((String) other.value, value);
                        }
                    }
                }
                if (one.sign.equals("is")) {
                    Object a = valueOf(one.terms.get(1), whole);
                    Object b = valueOf(one.terms.get(2), whole);
                    if (a != null && b != null) {
                        Object value = reckoned(a, one.operation, b);
                        if (value == null) {
                            return null;
                        }
                        whole.putIfAbsent((String) one.terms.get(0).value, value);
                    }
                }
            }
        }
        return whole;
    }

    private static Object reckoned(Object a, String operation, Object b) {
        if (a instanceof String || b instanceof String) {
            return null;
        }
        long x = (Integer) a;
        long y = (Integer) b;
        if (y == 0 && "/%".contains(operation)) {
            return null;
        }
        switch (operation) {
            case "+":
                return (int) (x + y);
            case "-":
                return (int) (x - y);
            case "*":
                return (int) (x * y);
            case "/":
                return (int) (x / y);
            default:
                return (int) (x % y);
        }
    }

    /** The ATOMS without ! are left out: the way was made from TUPLES that they are. */
    private static boolean holdsAll(List<Literal> body, Map<String, Object> way, Set<Row> rows) {
        for (Literal one : body) {
            if (!one.sign.isEmpty() && !holds(one, way, rows)) {
                return false;
            }
        }
        return true;
    }

    private static boolean holds(Literal one, Map<String, Object> way, Set<Row> rows) {
        if (one.atom != null) {
            for (Row row : rows) {
                if (matched(one.atom, row, way) != null) {
                    return false;
                }
            }
            return true;
        }
        Object left = valueOf(one.terms.get(0), way);
        if (one.sign.equals("is")) {
            return left.equals(reckoned(valueOf(one.terms.get(1), way), one.operation,
                    valueOf(one.terms.get(2), way)));
        }
        int order = BY_VALUE.compare(left, valueOf(one.terms.get(1), way));
        switch (one.sign) {
            case "=":
                return order == 0;
            case "!=":
                return order != 0;
            case "<":
                return order < 0;
            case "<=":
                return order <= 0;
            case ">":
                return order > 0;
            default:
                return order >= 0;
        }
    }
}
