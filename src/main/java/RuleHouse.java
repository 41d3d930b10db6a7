import java.util.Arrays;
import java.util.NoSuchElementException;

/**
 * Rules over facts: what follows from them, stratum by stratum, and questions about it.
 *
 * A VALUE is held as one long: a number as itself, a SYMBOL as SYMBOLS plus its letters, the
 * first one in the highest of six bytes, so that the order of longs is the order of VALUES.
 * A TERM is a VALUE, or VARIABLES plus the index of a VARIABLE, or ANYTHING.
 * Every ATOM and TUPLE has four places; those behind its last ARGUMENT hold 0.
 */
public final class RuleHouse {
    public static final int NONE = -1;

    private static final int MAX_TAPE = 600;
    private static final int MAX_NAME = 6;
    private static final int MAX_VARIABLE = 4;
    private static final int MAX_NUMBER = 9;
    private static final int MAX_ARGUMENTS = 4;
    private static final int MAX_LITERALS = 6;
    private static final int MAX_ATOMS = 3;
    private static final int MAX_RULES = 30;
    private static final int MAX_PREDICATES = 16;
    private static final int MAX_VARIABLES = 8;
    private static final int MAX_ROWS = 200;
    private static final int MAX_MODELS = 40;
    private static final int MAX_QUESTIONS = 500;

    /** A row of a predicate: the predicate, then its four places. */
    private static final int TUPLE_WIDTH = MAX_ARGUMENTS + 1;
    /** A power of two, and more than twice as many as there are rows. */
    private static final int SLOTS = 512;

    private static final long SYMBOLS = 1L << 56;
    private static final long VARIABLES = 1L << 57;
    private static final long ANYTHING = 1L << 58;

    // Kinds of TOKENS and LITERALS; a SIGN of one character is its own kind.
    private static final int END = 0;
    private static final int BAD = 1;
    private static final int NAME = 2;
    private static final int VARIABLE = 3;
    private static final int NUMBER = 4;
    private static final int IS = 5;
    private static final int COUNT = 6;
    private static final int SUM = 7;
    private static final int LEAST = 8;
    private static final int MOST = 9;
    private static final int IF = 10;
    private static final int UNEQUAL = 11;
    private static final int AT_MOST = 12;
    private static final int AT_LEAST = 13;
    private static final int ATOM = 14;
    private static final int ABSENT = 15;
    private static final int HEAD = 16;
    private static final int RELATION = 17;

    private static final long WORD_IS = SYMBOLS + ((long) 'i' << 40) + ((long) 's' << 32);
    private static final long WORD_COUNT = SYMBOLS + ((long) 'c' << 40) + ((long) 'o' << 32)
            + ((long) 'u' << 24) + ((long) 'n' << 16) + ((long) 't' << 8);
    private static final long WORD_SUM = SYMBOLS + ((long) 's' << 40) + ((long) 'u' << 32)
            + ((long) 'm' << 24);
    private static final long WORD_LEAST = SYMBOLS + ((long) 'l' << 40) + ((long) 'e' << 32)
            + ((long) 'a' << 24) + ((long) 's' << 16) + ((long) 't' << 8);
    private static final long WORD_MOST = SYMBOLS + ((long) 'm' << 40) + ((long) 'o' << 32)
            + ((long) 's' << 24) + ((long) 't' << 16);

    private static final int FAULT_NONE = 0;
    private static final int FAULT_TOKEN = 1;
    private static final int FAULT_ARGUMENTS = 2;
    private static final int FAULT_UNBOUND = 3;
    private static final int FAULT_HANGING = 4;

    private static final int STATE_OPEN = 0;
    private static final int STATE_MADE = 1;
    private static final int STATE_TOO_MANY = 2;

    private final Tape tape;
    private final Reader reader;
    private final Engine engine;
    private Program current;
    private Program nextProgram;
    private Rows answers;
    private Rows nextAnswers;
    private int answerVariables;
    private int state;
    private int modelsMade;
    private int questionsAnswered;
    private int faultKind;
    private int faultPlace;

    public RuleHouse() {
        tape = new Tape();
        reader = new Reader(tape);
        engine = new Engine();
        current = new Program();
        nextProgram = new Program();
        answers = new Rows(MAX_VARIABLES);
        nextAnswers = new Rows(MAX_VARIABLES);
        state = STATE_MADE;
    }

    public boolean type(long word, int n) {
        return tape.append(word, n);
    }

    public int program() throws IllegalArgumentException {
        reader.readProgram(nextProgram);
        closeReading();
        if (faultKind != FAULT_NONE) {
            throw new IllegalArgumentException();
        }
        Program old = current;
        current = nextProgram;
        nextProgram = old;
        state = STATE_OPEN;
        return current.rules;
    }

    public boolean fact(int how) throws IllegalArgumentException, IllegalStateException {
        if (how != 0 && how != 1) {
            tape.clear();
            faultKind = FAULT_NONE;
            faultPlace = 0;
            throw new IllegalArgumentException();
        }
        reader.readFact(current);
        closeReading();
        if (faultKind != FAULT_NONE) {
            throw new IllegalArgumentException();
        }
        int row = current.facts.find(reader.row);
        boolean comes = how == 1;
        if (comes == (row != NONE)) {
            return false;
        }
        if (comes && current.facts.count >= MAX_ROWS) {
            throw new IllegalStateException();
        }
        if (comes) {
            current.facts.add(reader.row);
        } else {
            current.facts.remove(row);
        }
        state = STATE_OPEN;
        return true;
    }

    public int fault(int what) {
        if (what == 0) {
            return faultKind;
        }
        return what == 1 ? faultPlace : NONE;
    }

    public int solve() throws IllegalStateException {
        if (state == STATE_OPEN) {
            if (modelsMade >= MAX_MODELS) {
                throw new IllegalStateException();
            }
            modelsMade++;
            state = engine.makeModel(current) ? STATE_MADE : STATE_TOO_MANY;
        }
        if (state == STATE_TOO_MANY) {
            throw new IllegalStateException();
        }
        return engine.model.rows.count;
    }

    public int ask() throws IllegalArgumentException, IllegalStateException {
        reader.readQuestion(current);
        closeReading();
        if (faultKind != FAULT_NONE) {
            throw new IllegalArgumentException();
        }
        if (state != STATE_MADE || questionsAnswered >= MAX_QUESTIONS) {
            throw new IllegalStateException();
        }
        if (!engine.collect(current, reader.question, nextAnswers)) {
            throw new IllegalStateException();
        }
        Rows old = answers;
        answers = nextAnswers;
        nextAnswers = old;
        answerVariables = reader.question.variables;
        questionsAnswered++;
        return answers.count;
    }

    public long answer(int i, int k) throws NoSuchElementException {
        if (i < 0 || i >= answers.count || k < 0 || k >= answerVariables) {
            throw new NoSuchElementException();
        }
        return shown(answers.inOrder(i, k));
    }

    public int total(int what) {
        switch (what) {
            case 0:
                return answerVariables;
            case 1:
                return answers.count;
            case 2:
                return current.predicates;
            case 3:
                return current.rules;
            case 4:
                return current.facts.count;
            case 5:
                return state;
            case 6:
                return state == STATE_MADE ? engine.model.rows.count : 0;
            case 7:
                return current.strata;
            case 8:
                return modelsMade;
            default:
                return NONE;
        }
    }

    public int predicate(int p, int what) {
        if (p < 0 || p >= current.predicates) {
            return NONE;
        }
        switch (what) {
            case 0:
                return current.arity[p];
            case 1:
                return current.stratum[p];
            case 2:
                return current.rulesOf(p);
            case 3:
                return current.facts.countOf(p);
            case 4:
                return tuplesOf(p);
            case 5:
                return lettersOf(current.name[p]);
            default:
                return what < 100 ? NONE : letterAt(current.name[p], what - 100);
        }
    }

    public long tuple(int p, int i, int k) throws NoSuchElementException {
        if (i < 0 || i >= tuplesOf(p) || k < 0 || k >= current.arity[p]) {
            throw new NoSuchElementException();
        }
        return shown(engine.model.rows.inOrder(engine.model.start(p) + i, k + 1));
    }

    public int round(int p, int i) throws NoSuchElementException {
        if (i < 0 || i >= tuplesOf(p)) {
            throw new NoSuchElementException();
        }
        return engine.model.came[engine.model.rows.order[engine.model.start(p) + i]];
    }

    private void closeReading() {
        tape.clear();
        faultKind = reader.faultKind;
        faultPlace = reader.faultPlace;
    }

    /** 0 without such a predicate or without a MODEL. */
    private int tuplesOf(int p) {
        if (p < 0 || p >= current.predicates || state != STATE_MADE) {
            return 0;
        }
        return engine.model.size[p];
    }

    /** A VALUE as the face tells it: the letters of a SYMBOL stand in the lowest bytes there. */
    private static long shown(long value) {
        if (value < SYMBOLS) {
            return value;
        }
        return SYMBOLS + ((value - SYMBOLS) >>> (8 * (MAX_NAME - lettersOf(value))));
    }

    private static int lettersOf(long symbol) {
        int letters = 0;
        for (int i = 0; i < MAX_NAME; i++) {
            if (letterAt(symbol, i) != NONE) {
                letters = i + 1;
            }
        }
        return letters;
    }

    /** NONE, if the SYMBOL has no such letter. */
    private static int letterAt(long symbol, int i) {
        if (i < 0 || i >= MAX_NAME) {
            return NONE;
        }
        int letter = (int) (symbol >>> (8 * (MAX_NAME - 1 - i))) & 255;
        return letter == 0 ? NONE : letter;
    }

    private static boolean isVariable(long term) {
        return term >= VARIABLES && term < VARIABLES + MAX_VARIABLES;
    }

    /** The characters that were typed, and the TOKENS in them. */
    private static final class Tape {
        final byte[] text = new byte[MAX_TAPE];
        final int[] kind = new int[MAX_TAPE + 1];
        final int[] place = new int[MAX_TAPE + 1];
        final long[] content = new long[MAX_TAPE + 1];
        int length;
        int tokens;

        boolean append(long word, int n) {
            if (n < 1 || n > 8 || length + n > MAX_TAPE) {
                return false;
            }
            for (int i = 0; i < n; i++) {
                int character = (int) (word >>> (8 * (n - 1 - i))) & 255;
                if (character < 32 || character > 126) {
                    return false;
                }
                text[length + i] = (byte) character;
            }
            length += n;
            return true;
        }

        void clear() {
            length = 0;
        }

        /** The last TOKEN is END, at the tape's length; nothing is looked at behind a BAD one. */
        void scan() {
            tokens = 0;
            int at = 0;
            for (int i = 0; i < MAX_TAPE && at < length; i++) {
                if (text[at] == ' ') {
                    at++;
                } else {
                    at = scanToken(at);
                }
            }
            put(END, length, 0);
        }

        int scanToken(int at) {
            int character = text[at];
            int end;
            if (isSmall(character)) {
                end = endOfWord(at, false);
                return end - at > MAX_NAME ? putBad(at) : putName(at, end);
            }
            if (isGreat(character)) {
                end = endOfWord(at, true);
                return end - at > MAX_VARIABLE ? putBad(at) : putPacked(VARIABLE, at, end);
            }
            if (isDigit(character)) {
                end = endOfDigits(at);
                return end - at > MAX_NUMBER ? putBad(at) : putNumber(at, end);
            }
            int pair = at + 1 < length ? pairKind(character, text[at + 1]) : NONE;
            if (pair != NONE) {
                put(pair, at, 0);
                return at + 2;
            }
            if (!isSign(character)) {
                return putBad(at);
            }
            put(character, at, 0);
            return at + 1;
        }

        int endOfWord(int from, boolean greatToo) {
            int end = from;
            while (end < length && (isSmall(text[end]) || isDigit(text[end])
                    || greatToo && isGreat(text[end]))) {
                end++;
            }
            return end;
        }

        int endOfDigits(int from) {
            int end = from;
            while (end < length && isDigit(text[end])) {
                end++;
            }
            return end;
        }

        int putBad(int at) {
            put(BAD, at, 0);
            return length;
        }

        int putName(int at, int end) {
            putPacked(NAME, at, end);
            int last = tokens - 1;
            kind[last] = nameKind(content[last]);
            return end;
        }

        int putPacked(int tokenKind, int at, int end) {
            long letters = 0;
            for (int i = 0; i < MAX_NAME; i++) {
                letters = letters * 256 + (at + i < end ? text[at + i] : 0);
            }
            put(tokenKind, at, SYMBOLS + letters);
            return end;
        }

        int putNumber(int at, int end) {
            long number = 0;
            for (int i = at; i < end; i++) {
                number = number * 10 + (text[i] - '0');
            }
            put(NUMBER, at, number);
            return end;
        }

        void put(int tokenKind, int at, long what) {
            if (tokens > MAX_TAPE) {
                return;
            }
            kind[tokens] = tokenKind;
            place[tokens] = at;
            content[tokens] = what;
            tokens++;
        }

        static int nameKind(long name) {
            if (name == WORD_IS) {
                return IS;
            }
            if (name == WORD_COUNT) {
                return COUNT;
            }
            if (name == WORD_SUM) {
                return SUM;
            }
            if (name == WORD_LEAST) {
                return LEAST;
            }
            return name == WORD_MOST ? MOST : NAME;
        }

        static int pairKind(int first, int second) {
            if (first == ':' && second == '-') {
                return IF;
            }
            if (second != '=') {
                return NONE;
            }
            switch (first) {
                case '!':
                    return UNEQUAL;
                case '<':
                    return AT_MOST;
                case '>':
                    return AT_LEAST;
                default:
                    return NONE;
            }
        }

        static boolean isSign(int character) {
            switch (character) {
                case '(':
                case ')':
                case ',':
                case '.':
                case '?':
                case '!':
                case '_':
                case '=':
                case '<':
                case '>':
                case '+':
                case '-':
                case '*':
                case '/':
                case '%':
                    return true;
                default:
                    return false;
            }
        }

        static boolean isSmall(int character) {
            return character >= 'a' && character <= 'z';
        }

        static boolean isGreat(int character) {
            return character >= 'A' && character <= 'Z';
        }

        static boolean isDigit(int character) {
            return character >= '0' && character <= '9';
        }
    }

    /** Different rows of VALUES, at most one more than MAX_ROWS, so that too many can be seen. */
    private static final class Rows {
        final int width;
        final long[] cell;
        final int[] slot = new int[SLOTS];
        final int[] order = new int[MAX_ROWS + 1];
        int count;

        Rows(int width) {
            this.width = width;
            cell = new long[(MAX_ROWS + 1) * width];
        }

        void clear() {
            count = 0;
            Arrays.fill(slot, 0);
        }

        /** The row with these cells, or NONE. */
        int find(long[] cells) {
            return slot[slotOf(cells, 0)] - 1;
        }

        /** The new row, or NONE if it was there. */
        int add(long[] cells) {
            int free = slotOf(cells, 0);
            if (slot[free] != 0 || count > MAX_ROWS) {
                return NONE;
            }
            System.arraycopy(cells, 0, cell, count * width, width);
            order[count] = count;
            count++;
            slot[free] = count;
            return count - 1;
        }

        /** The last row takes its place; the slots are dealt again, as a gap would cut a search. */
        void remove(int row) {
            if (row < 0 || row >= count) {
                return;
            }
            count--;
            System.arraycopy(cell, count * width, cell, row * width, width);
            Arrays.fill(slot, 0);
            for (int i = 0; i < count; i++) {
                slot[slotOf(cell, i * width)] = i + 1;
            }
        }

        /** The slot that holds the row with these cells, or the free one where it would be. */
        int slotOf(long[] cells, int from) {
            long mix = 0;
            for (int k = 0; k < width; k++) {
                mix = (mix ^ mix >>> 29 ^ cells[from + k]) * 0x9E3779B97F4A7C15L;
            }
            int at = (int) (mix >>> 40) & (SLOTS - 1);
            for (int tries = 0; tries < SLOTS && slot[at] != 0; tries++) {
                int start = (slot[at] - 1) * width;
                int same = 0;
                while (same < width && cell[start + same] == cells[from + same]) {
                    same++;
                }
                if (same == width) {
                    return at;
                }
                at = (at + 1) & (SLOTS - 1);
            }
            return at;
        }

        int countOf(int first) {
            int found = 0;
            for (int i = 0; i < count; i++) {
                if (cell[i * width] == first) {
                    found++;
                }
            }
            return found;
        }

        void sort() {
            for (int i = 1; i < count; i++) {
                int row = order[i];
                int at = i;
                while (at > 0 && isAhead(row, order[at - 1])) {
                    order[at] = order[at - 1];
                    at--;
                }
                order[at] = row;
            }
        }

        boolean isAhead(int row, int other) {
            int k = 0;
            while (k < width - 1 && cell[row * width + k] == cell[other * width + k]) {
                k++;
            }
            return cell[row * width + k] < cell[other * width + k];
        }

        long inOrder(int i, int k) {
            return cell[order[i] * width + k];
        }
    }

    /** A RULE, or the BODY of a QUESTION (its head is NONE), and the order to work it in. */
    private static final class Rule {
        int head;
        final long[] headTerm = new long[MAX_ARGUMENTS];
        int totalKind;
        int totalAt;
        int totalPlace;
        int variables;
        int literals;
        int atoms;
        final int[] kind = new int[MAX_LITERALS];
        /** The predicate of an ATOM, the SIGN behind is. */
        final int[] detail = new int[MAX_LITERALS];
        final int[] place = new int[MAX_LITERALS];
        final long[] term = new long[MAX_LITERALS * MAX_ARGUMENTS];
        final int[] step = new int[MAX_LITERALS];
        /** By steps: the VARIABLES that have VALUES ahead of it, a bit each. */
        final int[] boundBefore = new int[MAX_LITERALS];
        /** By steps: whether each TERM of it has a VALUE ahead of it, and none is _. */
        final boolean[] known = new boolean[MAX_LITERALS];
        /** The first step ahead of which all that comes out is known. */
        int settled;

        void clear() {
            head = NONE;
            totalKind = NONE;
            variables = 0;
            literals = 0;
            atoms = 0;
        }

        void setLiteral(int literal, int literalKind, int what, long[] terms) {
            kind[literal] = literalKind;
            detail[literal] = what;
            System.arraycopy(terms, 0, term, literal * MAX_ARGUMENTS, MAX_ARGUMENTS);
            literals = literal + 1;
        }

        boolean asks(int literal) {
            return kind[literal] == ATOM || kind[literal] == ABSENT;
        }

        /** Puts the LITERALS in an order in which each can be worked; answers what is BOUND. */
        int plan() {
            int goal = (1 << variables) - 1;
            if (head != NONE) {
                goal = variablesIn(headTerm, 0, MAX_ARGUMENTS);
            }
            int bound = 0;
            int done = 0;
            settled = literals;
            for (int depth = 0; depth < literals; depth++) {
                if ((goal & ~bound) == 0 && settled == literals) {
                    settled = depth;
                }
                int literal = nextLiteral(done, bound);
                if (literal == NONE) {
                    break;
                }
                step[depth] = literal;
                boundBefore[depth] = bound;
                known[depth] = isKnown(literal, bound);
                done |= 1 << literal;
                bound |= variablesOf(literal);
            }
            if (totalKind != NONE) {
                // Each way counts in a TOTAL, so none may be left out.
                settled = MAX_LITERALS + 1;
            }
            return bound;
        }

        /** What only tests or reckons goes ahead of the ATOMS, as it cuts the search. */
        int nextLiteral(int done, int bound) {
            int firstAtom = NONE;
            for (int i = literals - 1; i >= 0; i--) {
                if ((done & 1 << i) != 0) {
                    continue;
                }
                if (kind[i] == ATOM) {
                    firstAtom = i;
                } else if (isReady(i, bound)) {
                    return i;
                }
            }
            return firstAtom;
        }

        boolean isReady(int literal, int bound) {
            int from = literal * MAX_ARGUMENTS;
            if (kind[literal] == '=') {
                return (variablesIn(term, from, 1) & ~bound) == 0
                        || (variablesIn(term, from + 1, 1) & ~bound) == 0;
            }
            if (kind[literal] == IS) {
                return (variablesIn(term, from + 1, 2) & ~bound) == 0;
            }
            return (variablesIn(term, from, MAX_ARGUMENTS) & ~bound) == 0;
        }

        boolean isKnown(int literal, int bound) {
            for (int k = 0; k < MAX_ARGUMENTS; k++) {
                if (term[literal * MAX_ARGUMENTS + k] == ANYTHING) {
                    return false;
                }
            }
            return (variablesOf(literal) & ~bound) == 0;
        }

        int variablesOf(int literal) {
            return variablesIn(term, literal * MAX_ARGUMENTS, MAX_ARGUMENTS);
        }

        static int variablesIn(long[] terms, int from, int many) {
            int found = 0;
            for (int i = from; i < from + many && i < terms.length; i++) {
                if (isVariable(terms[i])) {
                    found |= 1 << (int) (terms[i] - VARIABLES);
                }
            }
            return found;
        }
    }

    /** Predicates, RULES and FACTS. */
    private static final class Program {
        final long[] name = new long[MAX_PREDICATES];
        final int[] arity = new int[MAX_PREDICATES];
        final int[] stratum = new int[MAX_PREDICATES];
        /** By predicates: those on which it HANGS, a bit each. */
        final int[] hangs = new int[MAX_PREDICATES];
        /** One more than there may be: a CLAUSE is read into it before it is known for a RULE. */
        final Rule[] rule = new Rule[MAX_RULES + 1];
        final Rows facts = new Rows(TUPLE_WIDTH);
        int predicates;
        int rules;
        int strata;

        Program() {
            for (int i = 0; i <= MAX_RULES; i++) {
                rule[i] = new Rule();
            }
        }

        void clear() {
            predicates = 0;
            rules = 0;
            facts.clear();
        }

        int predicateNamed(long sought) {
            for (int p = 0; p < predicates; p++) {
                if (name[p] == sought) {
                    return p;
                }
            }
            return NONE;
        }

        /** NONE, if there are too many; 0 ARGUMENTS stand for a number not known as yet. */
        int addPredicate(long newName) {
            if (predicates >= MAX_PREDICATES) {
                return NONE;
            }
            name[predicates] = newName;
            arity[predicates] = 0;
            predicates++;
            return predicates - 1;
        }

        int rulesOf(int p) {
            int found = 0;
            for (int r = 0; r < rules; r++) {
                if (rule[r].head == p) {
                    found++;
                }
            }
            return found;
        }

        void findHanging() {
            Arrays.fill(hangs, 0);
            for (int r = 0; r < rules; r++) {
                for (int i = 0; i < rule[r].literals; i++) {
                    if (rule[r].asks(i)) {
                        hangs[rule[r].head] |= 1 << rule[r].detail[i];
                    }
                }
            }
            for (int by = 0; by < predicates; by++) {
                for (int p = 0; p < predicates; p++) {
                    if ((hangs[p] & 1 << by) != 0) {
                        hangs[p] |= hangs[by];
                    }
                }
            }
        }

        /** The place of the first ! or TOTAL by which a predicate hangs on its own absence. */
        int hangingPlace() {
            for (int r = 0; r < rules; r++) {
                Rule one = rule[r];
                for (int i = 0; i < one.literals && one.totalKind != NONE; i++) {
                    if (one.asks(i) && comesBack(one.detail[i], one.head)) {
                        return one.totalPlace;
                    }
                }
                for (int i = 0; i < one.literals; i++) {
                    if (one.kind[i] == ABSENT && comesBack(one.detail[i], one.head)) {
                        return one.place[i];
                    }
                }
            }
            return NONE;
        }

        boolean comesBack(int asked, int head) {
            return asked == head || (hangs[asked] & 1 << head) != 0;
        }

        /** Each pass settles at least one stratum more, as no predicate hangs on its absence. */
        void findStrata() {
            Arrays.fill(stratum, 0);
            for (int pass = 0; pass < MAX_PREDICATES * MAX_PREDICATES; pass++) {
                boolean raised = false;
                for (int r = 0; r < rules; r++) {
                    raised |= raise(rule[r]);
                }
                if (!raised) {
                    break;
                }
            }
            strata = 0;
            for (int p = 0; p < predicates; p++) {
                strata = Math.max(strata, stratum[p] + 1);
            }
        }

        boolean raise(Rule one) {
            int least = stratum[one.head];
            for (int i = 0; i < one.literals; i++) {
                if (one.asks(i)) {
                    boolean above = one.kind[i] == ABSENT || one.totalKind != NONE;
                    least = Math.max(least, stratum[one.detail[i]] + (above ? 1 : 0));
                }
            }
            boolean raised = least > stratum[one.head];
            stratum[one.head] = least;
            return raised;
        }
    }

    /** Reads the tape as a PROGRAM, a FACT or a QUESTION; a false answer means a FAULT 1. */
    private static final class Reader {
        final Tape tape;
        /** A QUESTION, or the HEAD of a FACT that is read alone. */
        final Rule question = new Rule();
        final long[] argument = new long[MAX_ARGUMENTS];
        final long[] row = new long[TUPLE_WIDTH];
        final long[] variableName = new long[MAX_VARIABLES];
        final int[] variablePlace = new int[MAX_VARIABLES];
        Program home;
        /** Whether new predicates are taken. */
        boolean open;
        Rule rule;
        int at;
        /** The predicate of the ATOM or HEAD that was read last. */
        int named;
        int faultKind;
        int faultPlace;

        Reader(Tape tape) {
            this.tape = tape;
            rule = question;
        }

        void readProgram(Program target) {
            start(target, true);
            target.clear();
            boolean good = true;
            for (int i = 0; i < MAX_TAPE && good && kind() != END; i++) {
                good = readClause();
            }
            if (faultKind != FAULT_NONE) {
                return;
            }
            target.findHanging();
            int hanging = target.hangingPlace();
            if (hanging != NONE) {
                note(FAULT_HANGING, hanging);
                return;
            }
            target.findStrata();
        }

        void readFact(Program known) {
            start(known, false);
            startRule(question);
            if (readAtom(HEAD) && expect('.') && checkFact()) {
                checkEnd();
            }
        }

        void readQuestion(Program known) {
            start(known, false);
            startRule(question);
            if (readBody() && expect('?') && checkEnd()) {
                checkBound(rule.plan());
            }
        }

        void start(Program program, boolean takesNew) {
            home = program;
            open = takesNew;
            at = 0;
            faultKind = FAULT_NONE;
            faultPlace = 0;
            tape.scan();
        }

        void startRule(Rule empty) {
            rule = empty;
            rule.clear();
        }

        boolean readClause() {
            startRule(home.rule[home.rules]);
            int first = place();
            if (!readAtom(HEAD)) {
                return false;
            }
            rule.head = named;
            System.arraycopy(argument, 0, rule.headTerm, 0, MAX_ARGUMENTS);
            if (accept('.')) {
                boolean good = checkFact();
                if (good) {
                    home.facts.add(row);
                }
                return good;
            }
            if (!expect(IF)) {
                return false;
            }
            if (home.rules >= MAX_RULES) {
                return refuse(first);
            }
            if (!readBody() || !expect('.')) {
                return false;
            }
            checkBound(rule.plan());
            home.rules++;
            return true;
        }

        /** At the end of a FACT: it is put into row, if it has no VARIABLE and no TOTAL. */
        boolean checkFact() {
            int loose = rule.totalKind == NONE ? NONE : rule.totalPlace;
            if (rule.variables > 0 && (loose == NONE || variablePlace[0] < loose)) {
                loose = variablePlace[0];
            }
            if (loose != NONE) {
                return refuse(loose);
            }
            row[0] = named;
            System.arraycopy(argument, 0, row, 1, MAX_ARGUMENTS);
            return true;
        }

        boolean checkEnd() {
            return kind() == END || refuse(place());
        }

        void checkBound(int bound) {
            for (int v = 0; v < rule.variables; v++) {
                if ((bound & 1 << v) == 0) {
                    note(FAULT_UNBOUND, variablePlace[v]);
                }
            }
        }

        boolean readBody() {
            boolean more = true;
            for (int i = 0; i < MAX_LITERALS && more; i++) {
                if (!readLiteral(i)) {
                    return false;
                }
                more = accept(',');
            }
            return !more || refuse(place());
        }

        boolean readLiteral(int i) {
            rule.place[i] = place();
            if (accept('!')) {
                if (!readAtom(ABSENT)) {
                    return false;
                }
                rule.setLiteral(i, ABSENT, named, argument);
                return true;
            }
            if (kind() != NAME || tape.kind[at + 1] != '(') {
                return readRelation(i);
            }
            if (rule.atoms >= MAX_ATOMS) {
                return refuse(place());
            }
            rule.atoms++;
            if (!readAtom(ATOM)) {
                return false;
            }
            rule.setLiteral(i, ATOM, named, argument);
            return true;
        }

        boolean readRelation(int i) {
            Arrays.fill(argument, 0);
            boolean mayBeIs = kind() == VARIABLE;
            if (!readTerm(0, RELATION)) {
                return false;
            }
            int sign = kind();
            boolean isIs = mayBeIs && sign == IS;
            if (!isIs && !isRelation(sign)) {
                return refuse(place());
            }
            at++;
            if (!readTerm(1, RELATION)) {
                return false;
            }
            int operation = kind();
            if (isIs) {
                if (!isOperation(operation)) {
                    return refuse(place());
                }
                at++;
                if (!readTerm(2, RELATION)) {
                    return false;
                }
            }
            rule.setLiteral(i, sign, operation, argument);
            return true;
        }

        boolean readAtom(int role) {
            int first = place();
            if (kind() != NAME) {
                return refuse(first);
            }
            named = home.predicateNamed(tape.content[at]);
            if (named == NONE && open) {
                named = home.addPredicate(tape.content[at]);
                if (named == NONE) {
                    return refuse(first);
                }
            }
            at++;
            if (!expect('(')) {
                return false;
            }
            Arrays.fill(argument, 0);
            int many = 0;
            boolean more = true;
            for (int k = 0; k < MAX_ARGUMENTS && more; k++) {
                boolean total = role == HEAD && isTotal(kind());
                if (total && !openTotal(k) || !readTerm(k, role) || total && !expect(')')) {
                    return false;
                }
                many++;
                more = accept(',');
            }
            if (more) {
                return refuse(place());
            }
            checkArguments(many, first);
            return expect(')');
        }

        void checkArguments(int many, int first) {
            if (named == NONE) {
                note(FAULT_ARGUMENTS, first);
            } else if (home.arity[named] == 0) {
                home.arity[named] = many;
            } else if (home.arity[named] != many) {
                note(FAULT_ARGUMENTS, first);
            }
        }

        /** Reads up to the VARIABLE of a TOTAL. */
        boolean openTotal(int k) {
            if (rule.totalKind != NONE) {
                return refuse(place());
            }
            rule.totalKind = kind();
            rule.totalAt = k;
            rule.totalPlace = place();
            at++;
            return accept('(') && kind() == VARIABLE || refuse(place());
        }

        boolean readTerm(int k, int role) {
            boolean minus = accept('-');
            int kind = kind();
            if (kind == NUMBER) {
                argument[k] = minus ? -tape.content[at] : tape.content[at];
            } else if (minus) {
                return refuse(place());
            } else if (kind == NAME) {
                argument[k] = tape.content[at];
            } else if (kind == VARIABLE) {
                int index = variableIndex();
                if (index == NONE) {
                    return refuse(place());
                }
                argument[k] = VARIABLES + index;
            } else if (kind == '_' && (role == ABSENT || role == ATOM && rule.totalKind == NONE)) {
                argument[k] = ANYTHING;
            } else {
                return refuse(place());
            }
            at++;
            return true;
        }

        /** NONE for a ninth VARIABLE. */
        int variableIndex() {
            for (int v = 0; v < rule.variables; v++) {
                if (variableName[v] == tape.content[at]) {
                    return v;
                }
            }
            if (rule.variables >= MAX_VARIABLES) {
                return NONE;
            }
            variableName[rule.variables] = tape.content[at];
            variablePlace[rule.variables] = tape.place[at];
            rule.variables++;
            return rule.variables - 1;
        }

        int kind() {
            return tape.kind[at];
        }

        int place() {
            return tape.place[at];
        }

        /** Never called with END, so at stays on a TOKEN. */
        boolean accept(int wanted) {
            if (tape.kind[at] != wanted) {
                return false;
            }
            at++;
            return true;
        }

        boolean expect(int wanted) {
            return accept(wanted) || refuse(tape.place[at]);
        }

        /** A FAULT 1 goes ahead of all others. */
        boolean refuse(int where) {
            faultKind = FAULT_TOKEN;
            faultPlace = where;
            return false;
        }

        void note(int what, int where) {
            if (faultKind == FAULT_NONE || where < faultPlace) {
                faultKind = what;
                faultPlace = where;
            }
        }

        static boolean isTotal(int kind) {
            return kind >= COUNT && kind <= MOST;
        }

        static boolean isRelation(int kind) {
            return kind == '=' || kind == UNEQUAL || kind == '<' || kind == AT_MOST
                    || kind == '>' || kind == AT_LEAST;
        }

        static boolean isOperation(int kind) {
            return kind == '+' || kind == '-' || kind == '*' || kind == '/' || kind == '%';
        }
    }

    /** TUPLES with their rounds; those of one predicate are linked, the latest one first. */
    private static final class Model {
        final Rows rows = new Rows(TUPLE_WIDTH);
        final int[] came = new int[MAX_ROWS + 1];
        final int[] next = new int[MAX_ROWS + 1];
        final int[] first = new int[MAX_PREDICATES];
        final int[] size = new int[MAX_PREDICATES];

        void clear() {
            rows.clear();
            Arrays.fill(first, NONE);
            Arrays.fill(size, 0);
        }

        void link(int row, int p, int turn) {
            came[row] = turn;
            next[row] = first[p];
            first[p] = row;
            size[p]++;
        }

        /** Where the TUPLES of a predicate begin, when all are in order. */
        int start(int p) {
            int before = 0;
            for (int i = 0; i < p; i++) {
                before += size[i];
            }
            return before;
        }
    }

    /** Works RULES and QUESTIONS: makes the MODEL, and looks for answers in it. */
    private static final class Engine {
        final Model model = new Model();
        final long[] value = new long[MAX_VARIABLES];
        /** What comes out: a TUPLE, or the VALUES of a QUESTION. */
        final long[] goal = new long[MAX_VARIABLES];
        final long[] sought = new long[TUPLE_WIDTH];
        /** Of a RULE with a TOTAL: the HEADS with 0 for the TOTAL, and their TOTALS. */
        final Rows groups = new Rows(TUPLE_WIDTH);
        final long[] amount = new long[MAX_ROWS + 1];
        Program program;
        Rule rule;
        /** Where goals go: the MODEL, groups or answers. */
        Rows target;
        int stratum;
        int turn;
        /** The step that takes TUPLES of the round before this one, or NONE. */
        int freshStep;
        boolean full;

        Engine() {
            model.clear();
        }

        /** False: TOO MANY. TUPLES are never lost, so it may stop with the first one too many. */
        boolean makeModel(Program made) {
            program = made;
            model.clear();
            full = false;
            for (int s = 0; s < program.strata && !full; s++) {
                stratum = s;
                addFacts();
                int before = NONE;
                for (int t = 1; t <= MAX_ROWS + 1 && before != model.rows.count; t++) {
                    turn = t;
                    before = model.rows.count;
                    for (int r = 0; r < program.rules && !full; r++) {
                        runRule(program.rule[r]);
                    }
                }
            }
            model.rows.sort();
            return !full;
        }

        void addFacts() {
            turn = 0;
            for (int i = 0; i < program.facts.count; i++) {
                int p = (int) program.facts.cell[i * TUPLE_WIDTH];
                if (program.stratum[p] == stratum) {
                    System.arraycopy(program.facts.cell, i * TUPLE_WIDTH, goal, 0, TUPLE_WIDTH);
                    addTuple();
                }
            }
        }

        /**
         * A RULE that asks on its own stratum gives something new only with a TUPLE of the round
         * before: each of its ATOMS takes those in turn. Another one gives all in round 1.
         */
        void runRule(Rule chosen) {
            if (program.stratum[chosen.head] != stratum) {
                return;
            }
            rule = chosen;
            target = rule.totalKind == NONE ? model.rows : groups;
            boolean waits = false;
            for (int depth = 0; depth < rule.literals && !full; depth++) {
                int literal = rule.step[depth];
                if (rule.kind[literal] == ATOM
                        && program.stratum[rule.detail[literal]] == stratum) {
                    waits = true;
                    freshStep = depth;
                    walk(0);
                }
            }
            if (waits || turn != 1) {
                return;
            }
            freshStep = NONE;
            groups.clear();
            walk(0);
            if (rule.totalKind != NONE) {
                addTotals();
            }
        }

        /** False: more than MAX_ROWS answers. */
        boolean collect(Program asked, Rule question, Rows answers) {
            program = asked;
            rule = question;
            target = answers;
            stratum = NONE;
            freshStep = NONE;
            full = false;
            answers.clear();
            walk(0);
            answers.sort();
            return !full;
        }

        /** Goes through all VALUES with which the LITERALS from this step on hold. */
        private void walk(int depth) {
            if (full || depth > rule.literals || depth >= rule.settled && isFound()) {
                return;
            }
            if (depth == rule.literals) {
                take();
                return;
            }
            int literal = rule.step[depth];
            int bound = rule.boundBefore[depth];
            if (rule.kind[literal] != ATOM) {
                boolean absent = rule.kind[literal] == ABSENT;
                if (absent ? !isThere(literal, depth) : holds(literal, bound)) {
                    walk(depth + 1);
                }
                return;
            }
            if (rule.known[depth]) {
                int only = rowOf(literal);
                if (only != NONE && isInTime(only, depth)) {
                    walk(depth + 1);
                }
                return;
            }
            int p = rule.detail[literal];
            int row = model.first[p];
            for (int left = model.size[p]; left > 0 && row != NONE; left--) {
                if (isInTime(row, depth) && fits(literal, row, bound)) {
                    walk(depth + 1);
                }
                row = model.next[row];
            }
        }

        boolean isFound() {
            fillGoal();
            return target.find(goal) != NONE;
        }

        void fillGoal() {
            if (rule.head == NONE) {
                for (int v = 0; v < MAX_VARIABLES; v++) {
                    goal[v] = v < rule.variables ? value[v] : 0;
                }
                return;
            }
            goal[0] = rule.head;
            for (int k = 0; k < MAX_ARGUMENTS; k++) {
                goal[k + 1] = valueOf(rule.headTerm[k]);
            }
        }

        void take() {
            fillGoal();
            if (rule.head == NONE) {
                target.add(goal);
                full = target.count > MAX_ROWS;
            } else if (rule.totalKind == NONE) {
                addTuple();
            } else {
                takeWay();
            }
        }

        void addTuple() {
            int row = model.rows.add(goal);
            if (row != NONE) {
                model.link(row, (int) goal[0], turn);
            }
            full = model.rows.count > MAX_ROWS;
        }

        /** Each group gives a TUPLE of its own, so too many groups are TOO MANY. */
        void takeWay() {
            long way = goal[rule.totalAt + 1];
            goal[rule.totalAt + 1] = 0;
            int group = groups.find(goal);
            if (group == NONE) {
                group = groups.add(goal);
                full = groups.count > MAX_ROWS;
                if (group != NONE) {
                    amount[group] = firstAmount(way);
                }
                return;
            }
            amount[group] = nextAmount(amount[group], way);
        }

        long firstAmount(long way) {
            switch (rule.totalKind) {
                case COUNT:
                    return 1;
                case SUM:
                    return isNumber(way) ? way : 0;
                default:
                    return way;
            }
        }

        long nextAmount(long before, long way) {
            switch (rule.totalKind) {
                case COUNT:
                    return (int) (before + 1);
                case SUM:
                    return isNumber(way) ? (int) (before + way) : before;
                case LEAST:
                    return Math.min(before, way);
                default:
                    return Math.max(before, way);
            }
        }

        void addTotals() {
            for (int group = 0; group < groups.count && !full; group++) {
                System.arraycopy(groups.cell, group * TUPLE_WIDTH, goal, 0, TUPLE_WIDTH);
                goal[rule.totalAt + 1] = amount[group];
                addTuple();
            }
        }

        /** No TUPLE of this round is used in it, and none twice by two fresh steps. */
        boolean isInTime(int row, int depth) {
            if (program.stratum[rule.detail[rule.step[depth]]] != stratum) {
                return true;
            }
            int came = model.came[row];
            if (depth == freshStep) {
                return came == turn - 1;
            }
            return depth < freshStep ? came < turn - 1 : came < turn;
        }

        /** Whether the TUPLE is as the ATOM asks; gives VALUES to VARIABLES that have none. */
        boolean fits(int literal, int row, int boundBefore) {
            int bound = boundBefore;
            for (int k = 0; k < MAX_ARGUMENTS; k++) {
                long term = rule.term[literal * MAX_ARGUMENTS + k];
                long cell = model.rows.cell[row * TUPLE_WIDTH + 1 + k];
                if (isVariable(term)) {
                    int v = (int) (term - VARIABLES);
                    if ((bound & 1 << v) == 0) {
                        value[v] = cell;
                        bound |= 1 << v;
                    } else if (value[v] != cell) {
                        return false;
                    }
                } else if (term != ANYTHING && term != cell) {
                    return false;
                }
            }
            return true;
        }

        boolean holds(int literal, int bound) {
            int from = literal * MAX_ARGUMENTS;
            switch (rule.kind[literal]) {
                case IS:
                    return reckons(literal, bound);
                case '=':
                    if (isOpen(rule.term[from], bound)) {
                        return gives(rule.term[from], valueOf(rule.term[from + 1]), bound);
                    }
                    return gives(rule.term[from + 1], valueOf(rule.term[from]), bound);
                default:
                    return compares(literal);
            }
        }

        boolean isThere(int literal, int depth) {
            if (rule.known[depth]) {
                return rowOf(literal) != NONE;
            }
            int p = rule.detail[literal];
            int row = model.first[p];
            for (int left = model.size[p]; left > 0 && row != NONE; left--) {
                if (fits(literal, row, rule.boundBefore[depth])) {
                    return true;
                }
                row = model.next[row];
            }
            return false;
        }

        /** The TUPLE that an ATOM without _ is, when all its VARIABLES have VALUES. */
        int rowOf(int literal) {
            sought[0] = rule.detail[literal];
            for (int k = 0; k < MAX_ARGUMENTS; k++) {
                sought[k + 1] = valueOf(rule.term[literal * MAX_ARGUMENTS + k]);
            }
            return model.rows.find(sought);
        }

        boolean reckons(int literal, int bound) {
            int from = literal * MAX_ARGUMENTS;
            long left = valueOf(rule.term[from + 1]);
            long right = valueOf(rule.term[from + 2]);
            if (!isNumber(left) || !isNumber(right)) {
                return false;
            }
            int a = (int) left;
            int b = (int) right;
            int sign = rule.detail[literal];
            if (b == 0 && (sign == '/' || sign == '%')) {
                return false;
            }
            return gives(rule.term[from], reckoned(a, sign, b), bound);
        }

        static int reckoned(int a, int sign, int b) {
            switch (sign) {
                case '+':
                    return a + b;
                case '-':
                    return a - b;
                case '*':
                    return a * b;
                case '/':
                    return b == 0 ? 0 : a / b;
                default:
                    return b == 0 ? 0 : a % b;
            }
        }

        /** A TERM without a VALUE takes this one; another holds if it has it. */
        boolean gives(long term, long result, int bound) {
            if (isOpen(term, bound)) {
                value[(int) (term - VARIABLES)] = result;
                return true;
            }
            return valueOf(term) == result;
        }

        boolean compares(int literal) {
            long left = valueOf(rule.term[literal * MAX_ARGUMENTS]);
            long right = valueOf(rule.term[literal * MAX_ARGUMENTS + 1]);
            switch (rule.kind[literal]) {
                case UNEQUAL:
                    return left != right;
                case '<':
                    return left < right;
                case AT_MOST:
                    return left <= right;
                case '>':
                    return left > right;
                default:
                    return left >= right;
            }
        }

        long valueOf(long term) {
            if (term < VARIABLES || term >= VARIABLES + MAX_VARIABLES) {
                return term;
            }
            return value[(int) (term - VARIABLES)];
        }

        /** Whether it is a VARIABLE without a VALUE. */
        static boolean isOpen(long term, int bound) {
            if (term < VARIABLES || term >= VARIABLES + MAX_VARIABLES) {
                return false;
            }
            return (bound & 1 << (int) (term - VARIABLES)) == 0;
        }

        static boolean isNumber(long value) {
            return value < SYMBOLS;
        }
    }
}
