import java.util.Arrays;
import java.util.NoSuchElementException;

/** Messages written by one plan of records and read by another, as DOC.md tells. */
public final class ShapeReader {
    public static final int NONE = -1;

    private static final int TAPE_BYTES = 1000;
    private static final int PLANS = 6;
    private static final int RECORDS = 6;
    private static final int FIELDS = 8;
    private static final int BRANCHES = 4;
    private static final int TYPES_AROUND = 3;
    /** A type takes four bytes of the text at least ("a b,"); the roots have rows of their own. */
    private static final int TYPE_ROWS = TAPE_BYTES / 4 + 2 * PLANS;

    private static final int MESSAGES = 4;
    private static final int MESSAGE_BYTES = 400;
    private static final int NODES = 400;
    /** A value takes two bytes of the text at least ("1,"). */
    private static final int VALUE_ROWS = TAPE_BYTES / 2 + 2;
    private static final int LEVELS = 31;
    private static final int ITEMS = 200;
    private static final int LETTERS = 12;
    private static final int WORD_LETTERS = 8;
    private static final int LETTER_BITS = 5;

    private static final int NOTHING = 0;
    private static final int FLAG = 1;
    private static final int INT = 2;
    private static final int LONG = 3;
    private static final int REAL = 4;
    private static final int TEXT = 5;
    private static final int LIST = 6;
    private static final int RECORD = 7;
    private static final int EITHER = 8;

    private static final int FAULT_FORM = 1;
    private static final int FAULT_FIT = 2;
    private static final int FAULT_NAME = 3;
    private static final int FAULT_LIMIT = 4;
    private static final int FAULT_BRANCH = 5;
    private static final int FAULT_LEFT_OUT = 6;
    private static final int FAULT_SIZE = 7;

    private static final int MISS_ABSENT = 1;
    private static final int MISS_TYPE = 2;
    private static final int MISS_CHOICE = 3;
    private static final int MISS_BRANCH = 4;

    private static final int FAILURE_END = 11;
    private static final int FAILURE_VALUE = 12;
    private static final int FAILURE_BRANCH = 13;
    private static final int FAILURE_REST = 14;
    private static final int FAILURE_NODES = 15;
    private static final int FAILURE_LEVELS = 16;

    private static final int STEP_LIST = 100;
    private static final int STEP_BRANCH = 200;

    private static final int NO_MATCH = -2;
    private static final int FAILED = -3;
    private static final int TOO_LONG = -4;

    private final byte[] tape = new byte[TAPE_BYTES];
    private int tapeSize = 0;
    private final Tokens tokens = new Tokens(tape);
    private final Shapes shapes = new Shapes();
    private final Shapes draft = new Shapes();
    private final PlanText planText = new PlanText(tokens, draft);
    private final Messages messages = new Messages();
    private final Matcher matcher = new Matcher(shapes);
    private final Ways ways = new Ways();
    private final Tree shown = new Tree(NODES);
    private final Tree scratch = new Tree(VALUE_ROWS);
    private final Tree second = new Tree(NODES);
    private final ValueText valueText = new ValueText(tokens, shapes, scratch);
    private final Packer packer = new Packer(shapes);
    private final Reading latest = new Reading(shapes, messages, matcher, shown);
    /** alike() reads by this one, so that what failure() tells stays. */
    private final Reading trial = new Reading(shapes, messages, matcher, scratch);

    public ShapeReader() {
    }

    public int feed(int a, int b, int c, int d, int e) {
        if (tapeSize + 20 > TAPE_BYTES) {
            return NONE;
        }
        feedFour(a);
        feedFour(b);
        feedFour(c);
        feedFour(d);
        feedFour(e);
        return tapeSize;
    }

    private void feedFour(int number) {
        for (int shift = 24; shift >= 0; shift -= 8) {
            if (tapeSize < TAPE_BYTES) {
                tape[tapeSize] = (byte) (number >> shift);
                tapeSize++;
            }
        }
    }

    public int plans(int n) {
        if (n < 0 || n > tapeSize) {
            return NONE;
        }
        tapeSize = 0;
        tokens.begin(n);
        if (!planText.parse()) {
            return tokens.faultAnswer();
        }
        shapes.copyFrom(draft);
        shapes.findEmptyRecords();
        messages.clear();
        matcher.clear();
        ways.clear();
        shown.clear();
        return shapes.planCount;
    }

    public int write(int message, int plan, int n) {
        if (!messages.isNumber(message) || !isPlan(plan) || n < 0 || n > tapeSize) {
            return NONE;
        }
        tapeSize = 0;
        tokens.begin(n);
        if (!valueText.parse(shapes.rootType(plan))) {
            return tokens.faultAnswer();
        }
        packer.pack(scratch, shapes.rootType(plan));
        if (packer.size > MESSAGE_BYTES) {
            tokens.refuse(FAULT_SIZE);
            return tokens.faultAnswer();
        }
        messages.store(message, plan, packer);
        return packer.size;
    }

    private boolean isPlan(int plan) {
        return plan >= 0 && plan < shapes.planCount;
    }

    public int record(int plan, int record, int what) {
        if (!isPlan(plan)) {
            return NONE;
        }
        int records = shapes.recordsOf(plan);
        if (record == NONE) {
            return records;
        }
        if (record < 0 || record >= records) {
            return NONE;
        }
        int row = plan * RECORDS + record;
        switch (what) {
            case 0:
                return shapes.fieldsOf(row);
            case 1:
                return lettersIn(shapes.recordName(row));
            default:
                return NONE;
        }
    }

    public int field(int plan, int record, int field, int what) {
        if (!isPlan(plan) || record < 0 || record >= shapes.recordsOf(plan)) {
            return NONE;
        }
        int row = plan * RECORDS + record;
        if (field < 0 || field >= shapes.fieldsOf(row)) {
            return NONE;
        }
        int type = shapes.typeOf(row, field);
        switch (what) {
            case 0:
                return shapes.sortOf(type);
            case 1:
                return shapes.hasElse(row, field) ? 1 : 0;
            case 2:
                return shapes.formerName(row, field) != 0 ? 1 : 0;
            case 3:
                return lettersIn(shapes.fieldName(row, field));
            case 4:
                return shapes.branchesOf(type);
            case 5:
                return shapes.recordWithin(type);
            default:
                return NONE;
        }
    }

    public int message(int message, int what) {
        if (!messages.isWritten(message)) {
            return NONE;
        }
        switch (what) {
            case 0:
                return messages.sizeOf(message);
            case 1:
                return messages.planOf(message);
            default:
                return NONE;
        }
    }

    public int byteAt(int message, int i) throws NoSuchElementException {
        if (!messages.hasByte(message, i)) {
            throw new NoSuchElementException();
        }
        return messages.byteOf(message, i);
    }

    public int spoil(int message, int i, int x) {
        if (!messages.hasByte(message, i)) {
            return NONE;
        }
        return messages.change(message, i, x);
    }

    public int cut(int message, int n) {
        if (!messages.isWritten(message) || n < 0 || n > messages.sizeOf(message)) {
            return NONE;
        }
        return messages.shorten(message, n);
    }

    public int matches(int writer, int reader) {
        if (!isPlan(writer) || !isPlan(reader)) {
            return NONE;
        }
        return matcher.verdict(writer, reader);
    }

    public int miss(int writer, int reader, int i, int what) {
        if (!isPlan(writer) || !isPlan(reader)) {
            return NONE;
        }
        matcher.findMisses(writer, reader);
        if (i == NONE) {
            return matcher.missCount;
        }
        switch (what) {
            case 0:
                return matcher.missKind(i);
            case 1:
                return matcher.missSteps(i);
            default:
                return NONE;
        }
    }

    public int missStep(int writer, int reader, int i, int k) {
        if (!isPlan(writer) || !isPlan(reader)) {
            return NONE;
        }
        matcher.findMisses(writer, reader);
        return matcher.stepOfMiss(i, k);
    }

    public int readers(int writer, int what) {
        if (!isPlan(writer) || what < 0 || what > 1) {
            return NONE;
        }
        int bits = 0;
        for (int reader = 0; reader < shapes.planCount; reader++) {
            if (matcher.verdict(writer, reader) <= what) {
                bits |= 1 << reader;
            }
        }
        return bits;
    }

    public int read(int message, int plan) {
        if (!messages.isWritten(message) || !isPlan(plan)) {
            return NONE;
        }
        ways.use(messages.planOf(message), plan);
        return latest.run(message, plan, shown);
    }

    public int failure(int what) {
        if (latest.failure == 0) {
            return NONE;
        }
        switch (what) {
            case 0:
                return latest.failure;
            case 1:
                return latest.steps;
            case 2:
                return latest.failedAt;
            default:
                return NONE;
        }
    }

    public int failureStep(int k) {
        return latest.failure == 0 ? NONE : latest.stepAt(k);
    }

    public int node(int i, int what) throws NoSuchElementException {
        int row = shown.rowAt(i);
        if (row == NONE || what < 0 || what > 4) {
            throw new NoSuchElementException();
        }
        switch (what) {
            case 0:
                return shown.sortAt(row);
            case 1:
                return shown.numberOf(shown.parentOf(row));
            case 2:
                return shown.placeOf(row);
            case 3:
                return shown.sizeOf(row);
            default:
                return shown.isFilled(row) ? 1 : 0;
        }
    }

    public long value(int i) throws NoSuchElementException {
        int row = shown.rowAt(i);
        if (row == NONE) {
            throw new NoSuchElementException();
        }
        return shown.sortAt(row) == TEXT ? 0 : shown.worthOf(row);
    }

    public int letter(int i, int k) throws NoSuchElementException {
        int row = shown.rowAt(i);
        if (row == NONE || shown.sortAt(row) != TEXT || k < 0) {
            throw new NoSuchElementException();
        }
        return k < shown.sizeOf(row) ? letterOf(shown.worthOf(row), k) : 0;
    }

    public int convert(int message, int plan, int to) {
        if (!messages.isWritten(message) || !isPlan(plan) || !messages.isNumber(to)) {
            return NONE;
        }
        ways.use(messages.planOf(message), plan);
        int nodes = latest.run(message, plan, shown);
        if (nodes < 0) {
            return nodes;
        }
        packer.pack(shown, shapes.rootType(plan));
        if (packer.size > MESSAGE_BYTES) {
            return TOO_LONG;
        }
        messages.store(to, plan, packer);
        return packer.size;
    }

    public int alike(int one, int other, int plan) {
        if (!messages.isWritten(one) || !messages.isWritten(other) || !isPlan(plan)) {
            return NONE;
        }
        int first = trial.run(one, plan, scratch);
        if (first < 0) {
            return first;
        }
        int next = trial.run(other, plan, second);
        if (next < 0) {
            return next;
        }
        return scratch.isLike(second) ? 1 : 0;
    }

    public int kept(int i) {
        return i == NONE ? ways.size : ways.pairAt(i);
    }

    public int count(int what) {
        switch (what) {
            case 0:
                return shapes.planCount;
            case 1:
                return messages.writtenBits();
            case 2:
                return shown.size;
            case 3:
                return ways.found;
            case 4:
                return ways.notFound;
            case 5:
                return tapeSize;
            default:
                return NONE;
        }
    }

    /** Letters are 1 to 26 in five bits each, the first one lowest: a 0 ends them. */
    private static int letterOf(long letters, int k) {
        return k < 0 || k >= LETTERS ? 0 : (int) (letters >> (LETTER_BITS * k)) & 31;
    }

    private static int lettersIn(long letters) {
        int k = 0;
        while (k < LETTERS && letterOf(letters, k) != 0) {
            k++;
        }
        return k;
    }

    /** What Double.doubleToLongBits tells of a number of 0 or from 0.1 up to 2 to the 63rd. */
    private static long bitsOfPositive(double number) {
        if (!(number > 0.0)) {
            return 0;
        }
        double scaled = number;
        int exponent = 1023 + 52;
        for (int k = 0; k < 64 && scaled >= 9007199254740992.0; k++) {
            scaled = scaled / 2.0;
            exponent++;
        }
        for (int k = 0; k < 64 && scaled < 4503599627370496.0; k++) {
            scaled = scaled * 2.0;
            exponent--;
        }
        return ((long) exponent << 52) + ((long) scaled - 4503599627370496L);
    }

    private static long bitsOfWhole(long number) {
        return number >= 0 ? bitsOfPositive((double) number)
                : bitsOfPositive(0.0 - (double) number) | Long.MIN_VALUE;
    }

    /** The tape's bytes as tokens, and the first fault that was met among them. */
    private static final class Tokens {
        static final int END = 0;
        static final int BAD = 1;
        static final int KEYWORD = 2;
        static final int NAME = 3;
        static final int NUMBER = 4;
        static final int LETTERED = 5;

        static final int PLAN = 0;
        static final int RECORD_WORD = 1;
        static final int WAS = 2;
        static final int ELSE = 3;
        static final int LIST_WORD = 4;
        static final int EITHER_WORD = 5;
        static final int OR = 6;
        static final int NONE_WORD = 7;
        static final int TEXT_WORD = 12;
        static final int YES = 13;
        static final int NO = 14;
        static final int KEYWORDS = 15;
        static final String SPELT =
                "plan record was else list either or none flag int long real text yes no ";

        final byte[] tape;
        final long[] keywords = new long[KEYWORDS];
        int end = 0;
        int next = 0;
        /** One of the kinds above, or the sign itself where a token is a single one. */
        int kind = END;
        int start = 0;
        int keyword = NONE;
        long letters = 0;
        long digits = 0;
        boolean minus = false;
        boolean dotted = false;
        int tenths = 0;
        int faultKind = 0;
        int faultPlace = 0;

        Tokens(byte[] bytes) {
            tape = bytes;
            int word = 0;
            int k = 0;
            for (int i = 0; i < SPELT.length(); i++) {
                char sign = SPELT.charAt(i);
                if (sign == ' ') {
                    word++;
                    k = 0;
                } else if (word < KEYWORDS) {
                    keywords[word] |= (long) (sign - 'a' + 1) << (LETTER_BITS * k);
                    k++;
                }
            }
        }

        void begin(int n) {
            end = n;
            next = 0;
            faultKind = 0;
            faultPlace = 0;
            advance();
        }

        /** The first fault stays; it answers false so that a parser can end with it. */
        boolean refuse(int fault) {
            return refuseAt(fault, start);
        }

        boolean refuseAt(int fault, int place) {
            if (faultKind == 0) {
                faultKind = fault;
                faultPlace = place;
            }
            return false;
        }

        int faultAnswer() {
            return -2 - (8 * faultPlace + faultKind);
        }

        int signAt(int i) {
            return i >= 0 && i < end && i < tape.length ? tape[i] & 255 : 0;
        }

        void advance() {
            while (next < end && (signAt(next) == ' ' || signAt(next) == '\n')) {
                next++;
            }
            start = next;
            int sign = signAt(start);
            if (start >= end) {
                kind = END;
            } else if (isLetter(sign)) {
                scanWord();
            } else if (sign == '-' || isDigit(sign)) {
                scanNumber();
            } else if (sign == '"') {
                scanLettered();
            } else if (sign == '{' || sign == '}' || sign == '[' || sign == ']'
                    || sign == ',' || sign == ';') {
                kind = sign;
                next = start + 1;
            } else {
                kind = BAD;
            }
        }

        private static boolean isLetter(int sign) {
            return sign >= 'a' && sign <= 'z';
        }

        private static boolean isDigit(int sign) {
            return sign >= '0' && sign <= '9';
        }

        /** How many letters stand together there; most + 1 if they are more than most. */
        private int takeLetters(int from, int most) {
            letters = 0;
            for (int k = 0; k <= most; k++) {
                int at = from + k;
                int letter = at >= 0 && at < end && at < tape.length ? tape[at] - 'a' + 1 : 0;
                if (letter < 1 || letter > 26) {
                    return k;
                }
                if (k < most) {
                    letters |= (long) letter << (LETTER_BITS * k);
                }
            }
            return most + 1;
        }

        private void scanWord() {
            int size = takeLetters(start, WORD_LETTERS);
            if (size > WORD_LETTERS) {
                kind = BAD;
                return;
            }
            next = start + size;
            kind = NAME;
            keyword = NONE;
            for (int k = 0; k < KEYWORDS; k++) {
                if (keywords[k] == letters) {
                    kind = KEYWORD;
                    keyword = k;
                }
            }
        }

        private void scanLettered() {
            int size = takeLetters(start + 1, LETTERS);
            int close = start + 1 + size;
            if (size > LETTERS || signAt(close) != '"') {
                kind = BAD;
                return;
            }
            kind = LETTERED;
            next = close + 1;
        }

        private void scanNumber() {
            minus = signAt(start) == '-';
            dotted = false;
            tenths = 0;
            digits = 0;
            kind = BAD;
            int i = minus ? start + 1 : start;
            int size = 0;
            while (size <= 18 && isDigit(signAt(i))) {
                if (size < 18) {
                    digits = digits * 10 + (signAt(i) - '0');
                }
                size++;
                i++;
            }
            if (size == 0 || size > 18) {
                return;
            }
            if (signAt(i) == '.') {
                if (!isDigit(signAt(i + 1)) || isDigit(signAt(i + 2))) {
                    return;
                }
                dotted = true;
                tenths = signAt(i + 1) - '0';
                i += 2;
            }
            kind = NUMBER;
            next = i;
        }

        boolean isKeyword(int word) {
            return kind == KEYWORD && keyword == word;
        }

        boolean beginsLiteral() {
            return kind == NUMBER || kind == LETTERED || kind == '['
                    || isKeyword(NONE_WORD) || isKeyword(YES) || isKeyword(NO);
        }

        /** The sort of the type that this word begins; NONE: it begins none. */
        int sortBegun() {
            if (kind == NAME) {
                return RECORD;
            }
            if (kind != KEYWORD) {
                return NONE;
            }
            if (keyword == LIST_WORD) {
                return LIST;
            }
            if (keyword == EITHER_WORD) {
                return EITHER;
            }
            return keyword >= NONE_WORD && keyword <= TEXT_WORD ? keyword - NONE_WORD : NONE;
        }

        /** Whether a value that begins with this token fits a type of that sort. */
        boolean fits(int sort) {
            switch (sort) {
                case NOTHING:
                    return isKeyword(NONE_WORD);
                case FLAG:
                    return isKeyword(YES) || isKeyword(NO);
                case INT:
                    return kind == NUMBER && !dotted && isInt(whole());
                case LONG:
                    return kind == NUMBER && !dotted;
                case REAL:
                    return kind == NUMBER;
                case TEXT:
                    return kind == LETTERED;
                case LIST:
                    return kind == '[';
                case RECORD:
                    return kind == '{';
                default:
                    return false;
            }
        }

        private long whole() {
            return minus ? -digits : digits;
        }

        /** What this token is worth as a value of that sort, which it fits. */
        long worth(int sort) {
            switch (sort) {
                case FLAG:
                    return isKeyword(YES) ? 1 : 0;
                case INT:
                case LONG:
                    return whole();
                case REAL:
                    return realBits();
                case TEXT:
                    return letters;
                default:
                    return 0;
            }
        }

        /** Without a point -0 is the whole number 0; with one the sign stands in front of all. */
        private long realBits() {
            long bits = bitsOfPositive((double) digits + (double) tenths / 10.0);
            return minus && (dotted || digits != 0) ? bits | Long.MIN_VALUE : bits;
        }
    }

    private static boolean isInt(long number) {
        return number >= Integer.MIN_VALUE && number <= Integer.MAX_VALUE;
    }

    /** The plans: records lie at plan * RECORDS + record, fields at that row * FIELDS + field. */
    private static final class Shapes {
        int planCount = 0;
        int typeCount = 0;
        final int[] recordCounts = new int[PLANS];
        final int[] rootTypes = new int[PLANS];
        final int[] fieldCounts = new int[PLANS * RECORDS];
        final long[] recordNames = new long[PLANS * RECORDS];
        /** For each record a bit for each field that has an else. */
        final int[] elseBits = new int[PLANS * RECORDS];
        /** How many records lie in one another in a record that has no bytes; NONE: it has some. */
        final int[] emptyHeights = new int[PLANS * RECORDS];
        final long[] fieldNames = new long[PLANS * RECORDS * FIELDS];
        final long[] formerNames = new long[PLANS * RECORDS * FIELDS];
        final int[] fieldTypes = new int[PLANS * RECORDS * FIELDS];
        final long[] elseWorths = new long[PLANS * RECORDS * FIELDS];
        final int[] sorts = new int[TYPE_ROWS];
        /** The type of a list, the first branch of an either, the row of a record. */
        final int[] inners = new int[TYPE_ROWS];
        final int[] nextBranches = new int[TYPE_ROWS];
        final long[] askedNames = new long[TYPE_ROWS];
        final int[] askedPlaces = new int[TYPE_ROWS];

        void clear() {
            planCount = 0;
            typeCount = 0;
        }

        void copyFrom(Shapes other) {
            planCount = other.planCount;
            typeCount = other.typeCount;
            System.arraycopy(other.recordCounts, 0, recordCounts, 0, PLANS);
            System.arraycopy(other.rootTypes, 0, rootTypes, 0, PLANS);
            System.arraycopy(other.fieldCounts, 0, fieldCounts, 0, PLANS * RECORDS);
            System.arraycopy(other.recordNames, 0, recordNames, 0, PLANS * RECORDS);
            System.arraycopy(other.elseBits, 0, elseBits, 0, PLANS * RECORDS);
            System.arraycopy(other.fieldNames, 0, fieldNames, 0, PLANS * RECORDS * FIELDS);
            System.arraycopy(other.formerNames, 0, formerNames, 0, PLANS * RECORDS * FIELDS);
            System.arraycopy(other.fieldTypes, 0, fieldTypes, 0, PLANS * RECORDS * FIELDS);
            System.arraycopy(other.elseWorths, 0, elseWorths, 0, PLANS * RECORDS * FIELDS);
            System.arraycopy(other.sorts, 0, sorts, 0, TYPE_ROWS);
            System.arraycopy(other.inners, 0, inners, 0, TYPE_ROWS);
            System.arraycopy(other.nextBranches, 0, nextBranches, 0, TYPE_ROWS);
        }

        private static boolean isRecord(int row) {
            return row >= 0 && row < PLANS * RECORDS;
        }

        private static boolean isFieldOf(int row, int field) {
            return row >= 0 && row < PLANS * RECORDS && field >= 0 && field < FIELDS;
        }

        private boolean isType(int type) {
            return type >= 0 && type < typeCount && type < TYPE_ROWS;
        }

        int recordsOf(int plan) {
            return plan >= 0 && plan < PLANS ? recordCounts[plan] : 0;
        }

        int rootType(int plan) {
            return plan >= 0 && plan < PLANS ? rootTypes[plan] : NONE;
        }

        int fieldsOf(int row) {
            return isRecord(row) ? fieldCounts[row] : 0;
        }

        long recordName(int row) {
            return isRecord(row) ? recordNames[row] : 0;
        }

        long fieldName(int row, int field) {
            return isFieldOf(row, field) ? fieldNames[row * FIELDS + field] : 0;
        }

        /** 0: it was never called otherwise. */
        long formerName(int row, int field) {
            return isFieldOf(row, field) ? formerNames[row * FIELDS + field] : 0;
        }

        int typeOf(int row, int field) {
            return isFieldOf(row, field) ? fieldTypes[row * FIELDS + field] : NONE;
        }

        boolean hasElse(int row, int field) {
            return isFieldOf(row, field) && (elseBits[row] >> field & 1) != 0;
        }

        long elseWorth(int row, int field) {
            return isFieldOf(row, field) ? elseWorths[row * FIELDS + field] : 0;
        }

        int sortOf(int type) {
            return isType(type) ? sorts[type] : NONE;
        }

        int innerOf(int type) {
            return isType(type) ? inners[type] : NONE;
        }

        int branchAfter(int type) {
            return isType(type) ? nextBranches[type] : NONE;
        }

        int branchesOf(int type) {
            if (sortOf(type) != EITHER) {
                return 0;
            }
            int branches = 0;
            int branch = innerOf(type);
            while (branch != NONE && branches < BRANCHES) {
                branches++;
                branch = branchAfter(branch);
            }
            return branches;
        }

        int branchOf(int type, int number) {
            int branch = sortOf(type) == EITHER ? innerOf(type) : NONE;
            for (int k = 0; k < number && k < BRANCHES; k++) {
                branch = branchAfter(branch);
            }
            return branch;
        }

        /** The type itself, or the first branch of an either: what a literal behind else fits. */
        int firstChoice(int type) {
            return sortOf(type) == EITHER ? innerOf(type) : type;
        }

        /** The record of a type or of what its lists hold, numbered in its plan. */
        int recordWithin(int type) {
            int inner = type;
            for (int k = 0; k <= TYPES_AROUND && sortOf(inner) == LIST; k++) {
                inner = innerOf(inner);
            }
            return sortOf(inner) == RECORD ? Math.floorMod(innerOf(inner), RECORDS) : NONE;
        }

        int recordNamed(int plan, long name) {
            for (int k = 0; k < recordsOf(plan); k++) {
                if (recordName(plan * RECORDS + k) == name) {
                    return plan * RECORDS + k;
                }
            }
            return NONE;
        }

        int fieldNamed(int row, long name) {
            int first = row * FIELDS;
            int fields = isFieldOf(row, 0) ? fieldCounts[row] : 0;
            for (int k = 0; k < fields && k < FIELDS; k++) {
                if (fieldNames[first + k] == name) {
                    return k;
                }
            }
            return NONE;
        }

        /** The writer's field that the reader's one is read from; NONE: it is not there. */
        int sourceOf(int writerRow, int readerRow, int field) {
            int source = fieldNamed(writerRow, fieldName(readerRow, field));
            long former = formerName(readerRow, field);
            return source == NONE && former != 0 ? fieldNamed(writerRow, former) : source;
        }

        int addType(int sort) {
            if (typeCount >= TYPE_ROWS) {
                return NONE;
            }
            int type = typeCount;
            sorts[type] = sort;
            inners[type] = NONE;
            nextBranches[type] = NONE;
            askedNames[type] = 0;
            askedPlaces[type] = 0;
            typeCount++;
            return type;
        }

        void addPlan(int plan) {
            if (plan < 0 || plan >= PLANS) {
                return;
            }
            recordCounts[plan] = 0;
            rootTypes[plan] = addType(RECORD);
            setInner(rootTypes[plan], plan * RECORDS);
            planCount = plan + 1;
        }

        void addRecord(int plan, long name) {
            int row = plan * RECORDS + recordsOf(plan);
            if (plan >= 0 && plan < PLANS && isRecord(row)) {
                recordNames[row] = name;
                fieldCounts[row] = 0;
                elseBits[row] = 0;
                recordCounts[plan]++;
            }
        }

        void addField(int row, long name) {
            int field = fieldsOf(row);
            if (isFieldOf(row, field)) {
                fieldNames[row * FIELDS + field] = name;
                formerNames[row * FIELDS + field] = 0;
                fieldTypes[row * FIELDS + field] = NONE;
                elseWorths[row * FIELDS + field] = 0;
                fieldCounts[row]++;
            }
        }

        void setType(int row, int field, int type) {
            if (isFieldOf(row, field)) {
                fieldTypes[row * FIELDS + field] = type;
            }
        }

        void setFormerName(int row, int field, long name) {
            if (isFieldOf(row, field)) {
                formerNames[row * FIELDS + field] = name;
            }
        }

        void setElse(int row, int field, long worth) {
            if (isFieldOf(row, field)) {
                elseBits[row] |= 1 << field;
                elseWorths[row * FIELDS + field] = worth;
            }
        }

        void setInner(int type, int inner) {
            if (isType(type)) {
                inners[type] = inner;
            }
        }

        void setBranchAfter(int type, int branch) {
            if (isType(type)) {
                nextBranches[type] = branch;
            }
        }

        void setAsked(int type, long name, int place) {
            if (isType(type)) {
                askedNames[type] = name;
                askedPlaces[type] = place;
            }
        }

        /** Gives the plan's types their records: the first type whose record was not told; NONE: all were. */
        int resolve(int plan) {
            for (int type = rootType(plan); type < typeCount; type++) {
                if (isType(type) && askedNames[type] != 0) {
                    inners[type] = recordNamed(plan, askedNames[type]);
                    if (inners[type] == NONE) {
                        return type;
                    }
                }
            }
            return NONE;
        }

        int askedPlace(int type) {
            return isType(type) ? askedPlaces[type] : 0;
        }

        void findEmptyRecords() {
            Arrays.fill(emptyHeights, NONE);
            for (int round = 0; round < RECORDS; round++) {
                for (int plan = 0; plan < planCount; plan++) {
                    for (int k = 0; k < recordsOf(plan); k++) {
                        int row = plan * RECORDS + k;
                        if (isRecord(row) && emptyHeights[row] == NONE) {
                            emptyHeights[row] = heightOfFields(row);
                        }
                    }
                }
            }
        }

        private int heightOfFields(int row) {
            int most = 0;
            for (int field = 0; field < fieldsOf(row); field++) {
                int height = emptyHeight(typeOf(row, field));
                if (height == NONE) {
                    return NONE;
                }
                most = Math.max(most, height);
            }
            return most + 1;
        }

        /** How deep a type goes that has no bytes whatever its value; NONE: it has bytes. */
        int emptyHeight(int type) {
            if (sortOf(type) == NOTHING) {
                return 0;
            }
            int row = innerOf(type);
            return sortOf(type) == RECORD && isRecord(row) ? emptyHeights[row] : NONE;
        }
    }

    /** The text of plans, told into a draft. */
    private static final class PlanText {
        final Tokens tokens;
        final Shapes draft;

        PlanText(Tokens tokens, Shapes draft) {
            this.tokens = tokens;
            this.draft = draft;
        }

        boolean parse() {
            draft.clear();
            int plan = NONE;
            for (int k = 0; k <= PLANS * (RECORDS + 1); k++) {
                boolean whole = draft.recordsOf(plan) > 0;
                if (plan != NONE && tokens.isKeyword(Tokens.RECORD_WORD)) {
                    if (!parseRecord(plan)) {
                        return false;
                    }
                    continue;
                }
                boolean ends = whole && tokens.kind == Tokens.END;
                boolean goesOn = (whole || plan == NONE) && tokens.isKeyword(Tokens.PLAN);
                if (!ends && !goesOn) {
                    return tokens.refuse(FAULT_FORM);
                }
                if (!resolve(plan)) {
                    return false;
                }
                if (ends) {
                    return true;
                }
                plan++;
                if (!beginPlan(plan)) {
                    return false;
                }
            }
            return false;
        }

        private boolean resolve(int plan) {
            int unknown = draft.resolve(plan);
            return unknown == NONE || tokens.refuseAt(FAULT_NAME, draft.askedPlace(unknown));
        }

        private boolean beginPlan(int plan) {
            if (plan >= PLANS) {
                return tokens.refuse(FAULT_LIMIT);
            }
            draft.addPlan(plan);
            tokens.advance();
            if (tokens.kind != ';') {
                return tokens.refuse(FAULT_FORM);
            }
            tokens.advance();
            return true;
        }

        private boolean parseRecord(int plan) {
            if (draft.recordsOf(plan) >= RECORDS) {
                return tokens.refuse(FAULT_LIMIT);
            }
            tokens.advance();
            if (tokens.kind != Tokens.NAME) {
                return tokens.refuse(FAULT_FORM);
            }
            if (draft.recordNamed(plan, tokens.letters) != NONE) {
                return tokens.refuse(FAULT_NAME);
            }
            int row = plan * RECORDS + draft.recordsOf(plan);
            draft.addRecord(plan, tokens.letters);
            for (int field = 0; field <= FIELDS; field++) {
                tokens.advance();
                if (!parseField(row, field)) {
                    return false;
                }
                if (tokens.kind == ';') {
                    tokens.advance();
                    return true;
                }
                if (tokens.kind != ',') {
                    return tokens.refuse(FAULT_FORM);
                }
            }
            return false;
        }

        private boolean parseField(int row, int field) {
            if (tokens.kind != Tokens.NAME) {
                return tokens.refuse(FAULT_FORM);
            }
            long name = tokens.letters;
            if (draft.fieldNamed(row, name) != NONE) {
                return tokens.refuse(FAULT_NAME);
            }
            if (field >= FIELDS) {
                return tokens.refuse(FAULT_LIMIT);
            }
            draft.addField(row, name);
            tokens.advance();
            int type = parseType(0, 0);
            if (type == NONE) {
                return false;
            }
            draft.setType(row, field, type);
            return parseFormerName(row, field) && parseElse(row, field);
        }

        /** taken has a bit for each sort that a branch here must not have; 0 outside an either. */
        private int parseType(int around, int taken) {
            int sort = tokens.sortBegun();
            if (sort == NONE) {
                tokens.refuse(FAULT_FORM);
                return NONE;
            }
            int type = around > TYPES_AROUND || Integer.bitCount(taken) > BRANCHES
                    ? NONE : draft.addType(sort);
            if (type == NONE) {
                tokens.refuse(FAULT_LIMIT);
                return NONE;
            }
            if ((taken >> sort & 1) != 0) {
                tokens.refuse(FAULT_BRANCH);
                return NONE;
            }
            if (sort == RECORD) {
                draft.setAsked(type, tokens.letters, tokens.start);
            }
            tokens.advance();
            if (sort == EITHER) {
                return parseBranches(type, around) ? type : NONE;
            }
            if (sort == LIST) {
                int inner = parseType(around + 1, 0);
                draft.setInner(type, inner);
                return inner == NONE ? NONE : type;
            }
            return type;
        }

        private boolean parseBranches(int type, int around) {
            /* An either among its branches cannot be: its sort is taken from the start. */
            int taken = 1 << EITHER;
            int last = NONE;
            for (int k = 0; k <= BRANCHES; k++) {
                int branch = parseType(around + 1, taken);
                if (branch == NONE) {
                    return false;
                }
                if (last == NONE) {
                    draft.setInner(type, branch);
                } else {
                    draft.setBranchAfter(last, branch);
                }
                last = branch;
                taken |= 1 << draft.sortOf(branch);
                if (!tokens.isKeyword(Tokens.OR)) {
                    return k > 0 || tokens.refuse(FAULT_FORM);
                }
                tokens.advance();
            }
            return false;
        }

        private boolean parseFormerName(int row, int field) {
            if (!tokens.isKeyword(Tokens.WAS)) {
                return true;
            }
            tokens.advance();
            if (tokens.kind != Tokens.NAME) {
                return tokens.refuse(FAULT_FORM);
            }
            if (tokens.letters == draft.fieldName(row, field)) {
                return tokens.refuse(FAULT_NAME);
            }
            draft.setFormerName(row, field, tokens.letters);
            tokens.advance();
            return true;
        }

        private boolean parseElse(int row, int field) {
            if (!tokens.isKeyword(Tokens.ELSE)) {
                return true;
            }
            tokens.advance();
            if (!tokens.beginsLiteral()) {
                return tokens.refuse(FAULT_FORM);
            }
            int sort = draft.sortOf(draft.firstChoice(draft.typeOf(row, field)));
            if (!tokens.fits(sort)) {
                return tokens.refuse(FAULT_FIT);
            }
            draft.setElse(row, field, tokens.worth(sort));
            tokens.advance();
            if (sort == LIST) {
                if (tokens.kind != ']') {
                    return tokens.refuse(FAULT_FORM);
                }
                tokens.advance();
            }
            return true;
        }
    }

    /** The messages' bytes, side by side. */
    private static final class Messages {
        final byte[] bytes = new byte[MESSAGES * MESSAGE_BYTES];
        final int[] sizes = new int[MESSAGES];
        final int[] plansUsed = new int[MESSAGES];

        Messages() {
            Arrays.fill(plansUsed, NONE);
        }

        void clear() {
            Arrays.fill(plansUsed, NONE);
        }

        boolean isNumber(int message) {
            return message >= 0 && message < MESSAGES;
        }

        boolean isWritten(int message) {
            return isNumber(message) && plansUsed[message] != NONE;
        }

        boolean hasByte(int message, int i) {
            return isWritten(message) && i >= 0 && i < sizes[message] && i < MESSAGE_BYTES;
        }

        int sizeOf(int message) {
            return isNumber(message) ? sizes[message] : 0;
        }

        int planOf(int message) {
            return isNumber(message) ? plansUsed[message] : NONE;
        }

        int byteOf(int message, int i) {
            int at = message * MESSAGE_BYTES + i;
            return at >= 0 && at < MESSAGES * MESSAGE_BYTES ? bytes[at] & 255 : 0;
        }

        int change(int message, int i, int mask) {
            int old = byteOf(message, i);
            if (hasByte(message, i)) {
                bytes[message * MESSAGE_BYTES + i] = (byte) (old ^ mask);
            }
            return old;
        }

        int shorten(int message, int n) {
            int old = sizeOf(message);
            if (isNumber(message)) {
                sizes[message] = n;
            }
            return old;
        }

        void store(int message, int plan, Packer packer) {
            if (isNumber(message) && packer.size <= MESSAGE_BYTES) {
                System.arraycopy(packer.bytes, 0, bytes, message * MESSAGE_BYTES, packer.size);
                sizes[message] = packer.size;
                plansUsed[message] = plan;
            }
        }

        int writtenBits() {
            int bits = 0;
            for (int message = 0; message < MESSAGES; message++) {
                if (isWritten(message)) {
                    bits |= 1 << message;
                }
            }
            return bits;
        }
    }

    /** Values in one another; rows are in the order in which they came, children by their places. */
    private static final class Tree {
        final int rows;
        int size = 0;
        final int[] sorts;
        final int[] parents;
        final int[] places;
        final int[] sizes;
        final boolean[] filled;
        final long[] worths;
        final int[] firsts;
        final int[] lasts;
        final int[] nexts;
        /** The rows as nodes are numbered, each ahead of what it has, and the other way round. */
        final int[] order;
        final int[] numbers;

        Tree(int rows) {
            this.rows = rows;
            sorts = new int[rows];
            parents = new int[rows];
            places = new int[rows];
            sizes = new int[rows];
            filled = new boolean[rows];
            worths = new long[rows];
            firsts = new int[rows];
            lasts = new int[rows];
            nexts = new int[rows];
            order = new int[rows];
            numbers = new int[rows];
        }

        void clear() {
            size = 0;
        }

        private boolean isRow(int row) {
            return row >= 0 && row < size && row < rows;
        }

        /** A new row at a place of its parent; NONE: there is no room. */
        int grow(int sort, int parent, int place) {
            if (size >= rows) {
                return NONE;
            }
            int row = size;
            size++;
            sorts[row] = sort;
            parents[row] = parent;
            places[row] = place;
            sizes[row] = 0;
            filled[row] = false;
            worths[row] = 0;
            firsts[row] = NONE;
            lasts[row] = NONE;
            nexts[row] = NONE;
            if (isRow(parent)) {
                link(row, parent);
            }
            return row;
        }

        private void link(int row, int parent) {
            int last = lasts[parent];
            int before = NONE;
            if (isRow(last) && places[last] < places[row]) {
                before = last;
            } else {
                int child = firsts[parent];
                for (int k = 0; k < size && isRow(child) && places[child] < places[row]; k++) {
                    before = child;
                    child = nexts[child];
                }
            }
            if (isRow(before)) {
                nexts[row] = nexts[before];
                nexts[before] = row;
            } else {
                nexts[row] = firsts[parent];
                firsts[parent] = row;
            }
            if (nexts[row] == NONE) {
                lasts[parent] = row;
            }
        }

        void setWorth(int row, int count, long worth) {
            if (isRow(row)) {
                sizes[row] = count;
                worths[row] = worth;
            }
        }

        void setFilled(int row) {
            if (isRow(row)) {
                filled[row] = true;
            }
        }

        int sortAt(int row) {
            return isRow(row) ? sorts[row] : NONE;
        }

        int parentOf(int row) {
            return isRow(row) ? parents[row] : NONE;
        }

        int placeOf(int row) {
            return isRow(row) ? places[row] : 0;
        }

        int sizeOf(int row) {
            return isRow(row) ? sizes[row] : 0;
        }

        boolean isFilled(int row) {
            return isRow(row) && filled[row];
        }

        long worthOf(int row) {
            return isRow(row) ? worths[row] : 0;
        }

        int firstOf(int row) {
            return isRow(row) ? firsts[row] : NONE;
        }

        int nextOf(int row) {
            return isRow(row) ? nexts[row] : NONE;
        }

        int rowAt(int number) {
            return number >= 0 && number < size && number < rows ? order[number] : NONE;
        }

        int numberOf(int row) {
            return isRow(row) ? numbers[row] : NONE;
        }

        void putInOrder() {
            int row = 0;
            for (int k = 0; k < size && isRow(row); k++) {
                order[k] = row;
                numbers[row] = k;
                row = rowBehind(row);
            }
        }

        private int rowBehind(int row) {
            if (firstOf(row) != NONE) {
                return firstOf(row);
            }
            int up = row;
            for (int k = 0; k <= LEVELS && up != NONE && nextOf(up) == NONE; k++) {
                up = parentOf(up);
            }
            return nextOf(up);
        }

        /** Sorts and sizes in order tell the whole tree; what was filled in does not count. */
        boolean isLike(Tree other) {
            if (size != other.size) {
                return false;
            }
            for (int k = 0; k < size; k++) {
                int mine = rowAt(k);
                int its = other.rowAt(k);
                if (sortAt(mine) != other.sortAt(its) || sizeOf(mine) != other.sizeOf(its)
                        || worthOf(mine) != other.worthOf(its)) {
                    return false;
                }
            }
            return true;
        }
    }

    /** The text of a value, told into a tree; fields that are left out have no rows there. */
    private static final class ValueText {
        final Tokens tokens;
        final Shapes shapes;
        final Tree tree;

        ValueText(Tokens tokens, Shapes shapes, Tree tree) {
            this.tokens = tokens;
            this.shapes = shapes;
            this.tree = tree;
        }

        boolean parse(int rootType) {
            tree.clear();
            if (!parseValue(rootType, NONE, 0, 0)) {
                return false;
            }
            return tokens.kind == Tokens.END || tokens.refuse(FAULT_FORM);
        }

        private boolean parseValue(int type, int parent, int place, int level) {
            if (!tokens.beginsLiteral() && tokens.kind != '{') {
                return tokens.refuse(FAULT_FORM);
            }
            int fitting = fittingType(type);
            if (fitting == NONE) {
                return tokens.refuse(FAULT_FIT);
            }
            int sort = shapes.sortOf(fitting);
            int row = level >= LEVELS || place >= ITEMS ? NONE : tree.grow(sort, parent, place);
            if (row == NONE) {
                return tokens.refuse(FAULT_LIMIT);
            }
            long worth = tokens.worth(sort);
            tree.setWorth(row, sort == TEXT ? lettersIn(worth) : 0, worth);
            tokens.advance();
            if (sort == LIST) {
                return parseItems(shapes.innerOf(fitting), row, level);
            }
            if (sort == RECORD) {
                return parseFields(shapes.innerOf(fitting), row, level);
            }
            return true;
        }

        private int fittingType(int type) {
            if (shapes.sortOf(type) != EITHER) {
                return tokens.fits(shapes.sortOf(type)) ? type : NONE;
            }
            int branch = shapes.innerOf(type);
            for (int k = 0; k < BRANCHES && branch != NONE; k++) {
                if (tokens.fits(shapes.sortOf(branch))) {
                    return branch;
                }
                branch = shapes.branchAfter(branch);
            }
            return NONE;
        }

        private boolean parseItems(int type, int row, int level) {
            if (tokens.kind == ']') {
                tokens.advance();
                return true;
            }
            for (int item = 0; item <= ITEMS; item++) {
                if (!parseValue(type, row, item, level + 1)) {
                    return false;
                }
                if (tokens.kind == ']') {
                    tree.setWorth(row, item + 1, 0);
                    tokens.advance();
                    return true;
                }
                if (tokens.kind != ',') {
                    return tokens.refuse(FAULT_FORM);
                }
                tokens.advance();
            }
            return false;
        }

        private boolean parseFields(int record, int row, int level) {
            int told = 0;
            boolean more = tokens.kind != '}';
            for (int k = 0; k <= FIELDS && more; k++) {
                if (tokens.kind != Tokens.NAME) {
                    return tokens.refuse(FAULT_FORM);
                }
                int field = shapes.fieldNamed(record, tokens.letters);
                if (field == NONE || (told >> field & 1) != 0) {
                    return tokens.refuse(FAULT_NAME);
                }
                told |= 1 << field;
                tokens.advance();
                if (!parseValue(shapes.typeOf(record, field), row, field, level + 1)) {
                    return false;
                }
                if (tokens.kind != ',' && tokens.kind != '}') {
                    return tokens.refuse(FAULT_FORM);
                }
                more = tokens.kind == ',';
                if (more) {
                    tokens.advance();
                }
            }
            return closeRecord(record, told);
        }

        private boolean closeRecord(int record, int told) {
            for (int field = 0; field < shapes.fieldsOf(record); field++) {
                if ((told >> field & 1) == 0 && !shapes.hasElse(record, field)) {
                    return tokens.refuse(FAULT_LEFT_OUT);
                }
            }
            tokens.advance();
            return true;
        }
    }

    /** A tree as bytes; those beyond a message's room are counted alone. */
    private static final class Packer {
        final Shapes shapes;
        final byte[] bytes = new byte[MESSAGE_BYTES];
        int size = 0;

        Packer(Shapes shapes) {
            this.shapes = shapes;
        }

        void pack(Tree tree, int rootType) {
            size = 0;
            packValue(tree, 0, rootType, 0);
        }

        private void packValue(Tree tree, int row, int type, int level) {
            if (level > LEVELS) {
                return;
            }
            int sort = tree.sortAt(row);
            int own = shapes.sortOf(type) == EITHER ? packBranch(type, sort) : type;
            if (sort == RECORD) {
                packFields(tree, row, shapes.innerOf(own), level);
            } else if (sort == LIST) {
                putNumber(tree.sizeOf(row));
                int child = tree.firstOf(row);
                for (int k = 0; k < ITEMS && child != NONE; k++) {
                    packValue(tree, child, shapes.innerOf(own), level + 1);
                    child = tree.nextOf(child);
                }
            } else {
                packPlain(sort, tree.worthOf(row));
            }
        }

        /** No two branches are of one sort, so that a value's sort tells its branch. */
        private int packBranch(int either, int sort) {
            int branch = shapes.innerOf(either);
            int number = 0;
            for (int k = 0; k < BRANCHES && branch != NONE && shapes.sortOf(branch) != sort; k++) {
                branch = shapes.branchAfter(branch);
                number++;
            }
            putNumber(number);
            return branch;
        }

        private void packFields(Tree tree, int row, int record, int level) {
            int child = tree.firstOf(row);
            for (int field = 0; field < shapes.fieldsOf(record); field++) {
                int type = shapes.typeOf(record, field);
                if (child != NONE && tree.placeOf(child) == field) {
                    packValue(tree, child, type, level + 1);
                    child = tree.nextOf(child);
                } else {
                    packElse(record, field, type);
                }
            }
        }

        private void packElse(int record, int field, int type) {
            int choice = shapes.firstChoice(type);
            if (choice != type) {
                putNumber(0);
            }
            packPlain(shapes.sortOf(choice), shapes.elseWorth(record, field));
        }

        /** A list here is the empty one that stands behind else. */
        private void packPlain(int sort, long worth) {
            switch (sort) {
                case FLAG:
                    put((int) worth);
                    break;
                case INT:
                case LONG:
                    putNumber(worth);
                    break;
                case REAL:
                    for (int shift = 56; shift >= 0; shift -= 8) {
                        put((int) (worth >> shift));
                    }
                    break;
                case TEXT:
                    packLetters(worth);
                    break;
                case LIST:
                    putNumber(0);
                    break;
                default:
                    break;
            }
        }

        private void packLetters(long letters) {
            int many = lettersIn(letters);
            putNumber(many);
            for (int k = 0; k < many; k++) {
                put('a' - 1 + letterOf(letters, k));
            }
        }

        private void putNumber(long number) {
            long rest = number << 1 ^ number >> 63;
            for (int k = 0; k < 9 && (rest & ~127L) != 0; k++) {
                put((int) (rest & 127) | 128);
                rest >>>= 7;
            }
            put((int) rest);
        }

        private void put(int sign) {
            if (size < MESSAGE_BYTES) {
                bytes[size] = (byte) sign;
            }
            size++;
        }
    }

    /** Which types of a writer match which of a reader, and what is against it. */
    private static final class Matcher {
        static final int MISSES = 20;
        /** Seven pairs of records at most, each with a field and three types in one another. */
        static final int STEPS = 32;
        static final int TYPE_LEVELS = 10;
        static final int WALK_LEVELS = 40;

        final Shapes shapes;
        /** For each pair of plans a bit for each pair of records that match. */
        final long[] relations = new long[PLANS * PLANS];
        /** A bit for each pair of plans whose relation is known. */
        long related = 0;
        final int[] verdicts = new int[PLANS * PLANS];
        /** The relation of the pair that was turned to last. */
        long relation = 0;
        int missPair = NONE;
        int missCount = 0;
        final int[] missKinds = new int[MISSES];
        final int[] missSizes = new int[MISSES];
        final int[] missPaths = new int[MISSES * STEPS];
        final int[] path = new int[STEPS];
        int steps = 0;
        long seen = 0;

        Matcher(Shapes shapes) {
            this.shapes = shapes;
            Arrays.fill(verdicts, NONE);
        }

        void clear() {
            related = 0;
            Arrays.fill(verdicts, NONE);
            missPair = NONE;
            missCount = 0;
        }

        private static int pairOf(int writer, int reader) {
            return writer >= 0 && writer < PLANS && reader >= 0 && reader < PLANS
                    ? writer * PLANS + reader : 0;
        }

        private static long bitOf(int writerRow, int readerRow) {
            return 1L << (Math.floorMod(writerRow, RECORDS) * RECORDS + Math.floorMod(readerRow, RECORDS));
        }

        /** What rootsFit(), fits() and chosen() answer is of this pair of plans from now on. */
        void turnTo(int writer, int reader) {
            int pair = pairOf(writer, reader);
            if ((related >> pair & 1) == 0) {
                relate(writer, reader);
                relations[pair] = relation;
                related |= 1L << pair;
            }
            relation = relations[pair];
        }

        /** Records that ask for one another match unless something is against it: so all do at first. */
        private void relate(int writer, int reader) {
            relation = 0;
            for (int w = 0; w < shapes.recordsOf(writer); w++) {
                for (int r = 0; r < shapes.recordsOf(reader); r++) {
                    if (mayPair(writer * RECORDS + w, reader * RECORDS + r)) {
                        relation |= bitOf(w, r);
                    }
                }
            }
            long before = 0;
            for (int round = 0; round <= RECORDS * RECORDS && relation != before; round++) {
                before = relation;
                for (int w = 0; w < RECORDS; w++) {
                    for (int r = 0; r < RECORDS; r++) {
                        if ((relation & bitOf(w, r)) != 0
                                && !fieldsFit(writer * RECORDS + w, reader * RECORDS + r)) {
                            relation &= ~bitOf(w, r);
                        }
                    }
                }
            }
        }

        private boolean mayPair(int writerRow, int readerRow) {
            return Math.floorMod(writerRow, RECORDS) == 0 && Math.floorMod(readerRow, RECORDS) == 0
                    || shapes.recordName(writerRow) == shapes.recordName(readerRow);
        }

        private boolean fieldsFit(int writerRow, int readerRow) {
            for (int field = 0; field < shapes.fieldsOf(readerRow); field++) {
                int source = shapes.sourceOf(writerRow, readerRow, field);
                boolean good = source == NONE ? shapes.hasElse(readerRow, field)
                        : fitsWithin(shapes.typeOf(writerRow, source), shapes.typeOf(readerRow, field), 0);
                if (!good) {
                    return false;
                }
            }
            return true;
        }

        boolean fits(int writerType, int readerType) {
            return fitsWithin(writerType, readerType, 0);
        }

        private boolean fitsWithin(int writerType, int readerType, int level) {
            if (level > TYPE_LEVELS) {
                return false;
            }
            int from = shapes.sortOf(writerType);
            int to = shapes.sortOf(readerType);
            if (from == EITHER) {
                int branch = shapes.innerOf(writerType);
                for (int k = 0; k < BRANCHES && branch != NONE; k++) {
                    if (fitsWithin(branch, readerType, level + 1)) {
                        return true;
                    }
                    branch = shapes.branchAfter(branch);
                }
                return false;
            }
            if (to == EITHER) {
                return chosenWithin(writerType, readerType, level + 1) != NONE;
            }
            if (from == LIST && to == LIST) {
                return fitsWithin(shapes.innerOf(writerType), shapes.innerOf(readerType), level + 1);
            }
            if (from == RECORD && to == RECORD) {
                return (relation & bitOf(shapes.innerOf(writerType), shapes.innerOf(readerType))) != 0;
            }
            return plainFits(from, to);
        }

        private static boolean plainFits(int from, int to) {
            if (from < NOTHING || from > TEXT) {
                return false;
            }
            return from == to || from == INT && (to == LONG || to == REAL) || from == LONG && to == REAL;
        }

        /** The branch of the reader's either that takes a type of the writer that is none; NONE: none. */
        int chosen(int writerType, int either) {
            return chosenWithin(writerType, either, 0);
        }

        private int chosenWithin(int writerType, int either, int level) {
            int first = NONE;
            int branch = shapes.innerOf(either);
            for (int k = 0; k < BRANCHES && branch != NONE; k++) {
                if (fitsWithin(writerType, branch, level + 1)) {
                    if (shapes.sortOf(branch) == shapes.sortOf(writerType)) {
                        return branch;
                    }
                    first = first == NONE ? branch : first;
                }
                branch = shapes.branchAfter(branch);
            }
            return first;
        }

        boolean rootsFit() {
            return (relation & bitOf(0, 0)) != 0;
        }

        /** 0 as a whole, 1 partly, 2 not at all. */
        int verdict(int writer, int reader) {
            int pair = pairOf(writer, reader);
            if (verdicts[pair] == NONE) {
                turnTo(writer, reader);
                collectMisses(writer, reader);
                int partly = missCount > 0 ? 1 : 0;
                verdicts[pair] = rootsFit() ? partly : 2;
            }
            return verdicts[pair];
        }

        void findMisses(int writer, int reader) {
            turnTo(writer, reader);
            collectMisses(writer, reader);
        }

        private void collectMisses(int writer, int reader) {
            int pair = pairOf(writer, reader);
            if (missPair == pair) {
                return;
            }
            missPair = pair;
            missCount = 0;
            steps = 0;
            seen = 0;
            walk(shapes.rootType(writer), shapes.rootType(reader), 0);
        }

        private void walk(int writerType, int readerType, int level) {
            if (level > WALK_LEVELS || missCount >= MISSES) {
                return;
            }
            int from = shapes.sortOf(writerType);
            if (from == EITHER) {
                walkBranches(writerType, readerType, level);
                return;
            }
            int target = readerType;
            if (shapes.sortOf(readerType) == EITHER) {
                target = chosen(writerType, readerType);
                if (target == NONE) {
                    addMiss(MISS_CHOICE);
                    return;
                }
            }
            int to = shapes.sortOf(target);
            int inner = shapes.innerOf(writerType);
            int targetInner = shapes.innerOf(target);
            if (from == RECORD && to == RECORD && mayPair(inner, targetInner)) {
                walkFields(inner, targetInner, level);
            } else if (from == LIST && to == LIST) {
                step(STEP_LIST);
                walk(inner, targetInner, level + 1);
                steps--;
            } else if (!fits(writerType, target)) {
                addMiss(MISS_TYPE);
            }
        }

        private void walkBranches(int either, int readerType, int level) {
            int branch = shapes.innerOf(either);
            for (int k = 0; k < BRANCHES && branch != NONE; k++) {
                step(STEP_BRANCH + k);
                if (fits(branch, readerType)) {
                    walk(branch, readerType, level + 1);
                } else {
                    addMiss(MISS_BRANCH);
                }
                steps--;
                branch = shapes.branchAfter(branch);
            }
        }

        private void walkFields(int writerRow, int readerRow, int level) {
            if ((seen & bitOf(writerRow, readerRow)) != 0) {
                return;
            }
            seen |= bitOf(writerRow, readerRow);
            for (int field = 0; field < shapes.fieldsOf(readerRow); field++) {
                step(field);
                int source = shapes.sourceOf(writerRow, readerRow, field);
                if (source != NONE) {
                    walk(shapes.typeOf(writerRow, source), shapes.typeOf(readerRow, field), level + 1);
                } else if (!shapes.hasElse(readerRow, field)) {
                    addMiss(MISS_ABSENT);
                }
                steps--;
            }
        }

        private void step(int number) {
            if (steps >= 0 && steps < STEPS) {
                path[steps] = number;
            }
            steps++;
        }

        private void addMiss(int kind) {
            if (missCount < 0 || missCount >= MISSES || steps < 0 || steps > STEPS) {
                return;
            }
            missKinds[missCount] = kind;
            missSizes[missCount] = steps;
            System.arraycopy(path, 0, missPaths, missCount * STEPS, steps);
            missCount++;
        }

        private boolean isMiss(int i) {
            return i >= 0 && i < missCount && i < MISSES;
        }

        int missKind(int i) {
            return isMiss(i) ? missKinds[i] : NONE;
        }

        int missSteps(int i) {
            return isMiss(i) ? missSizes[i] : NONE;
        }

        int stepOfMiss(int i, int k) {
            return isMiss(i) && k >= 0 && k < missSizes[i] && k < STEPS ? missPaths[i * STEPS + k] : NONE;
        }
    }

    /** A message gone through as its writer told, into the nodes that the reader has. */
    private static final class Reading {
        /** A field or an item and a branch for each level. */
        static final int STEPS = 2 * LEVELS + 2;

        final Shapes shapes;
        final Messages messages;
        final Matcher matcher;
        /** Each run has its own: alike() reads into two of them. */
        Tree tree;
        int message = 0;
        int next = 0;
        int end = 0;
        /** The kind of the failure; 0: there was none. */
        int failure = 0;
        int failedAt = NONE;
        final int[] path = new int[STEPS];
        int steps = 0;
        /** For each level the writer's fields from which the reader's fields are read. */
        final int[] sources = new int[(LEVELS + 1) * FIELDS];

        Reading(Shapes shapes, Messages messages, Matcher matcher, Tree tree) {
            this.shapes = shapes;
            this.messages = messages;
            this.matcher = matcher;
            this.tree = tree;
        }

        int run(int number, int reader, Tree target) {
            int writer = messages.planOf(number);
            tree = target;
            tree.clear();
            message = number;
            next = 0;
            end = messages.sizeOf(number);
            failure = 0;
            steps = 0;
            matcher.turnTo(writer, reader);
            if (!matcher.rootsFit()) {
                return NO_MATCH;
            }
            take(shapes.rootType(writer), shapes.rootType(reader), NONE, 0, 0);
            if (failure == 0 && next < end) {
                fail(FAILURE_REST, next);
            }
            if (failure != 0) {
                tree.clear();
                return FAILED;
            }
            tree.putInOrder();
            return tree.size;
        }

        int stepAt(int k) {
            return k >= 0 && k < steps && k < STEPS ? path[k] : NONE;
        }

        private void fail(int kind, int at) {
            if (failure == 0) {
                failure = kind;
                failedAt = at;
                if (kind == FAILURE_REST || kind == FAILURE_NODES) {
                    steps = 0;
                }
            }
        }

        private void step(int number) {
            if (steps >= 0 && steps < STEPS) {
                path[steps] = number;
            }
            steps++;
        }

        /** Once it has failed the path stays as it was there. */
        private void stepBack() {
            if (failure == 0) {
                steps--;
            }
        }

        /** A value of the writer's type; readerType NONE: the reader has it not. */
        private void take(int writerType, int readerType, int parent, int place, int level) {
            if (level >= LEVELS) {
                fail(FAILURE_LEVELS, next);
                return;
            }
            if (readerType == NONE && isEmptyThere(writerType, level)) {
                return;
            }
            if (shapes.sortOf(writerType) != EITHER) {
                takeOwn(writerType, readerType, parent, place, level);
                return;
            }
            int at = next;
            int number = takeCount(at, shapes.branchesOf(writerType) - 1);
            if (failure != 0) {
                return;
            }
            int branch = shapes.branchOf(writerType, number);
            step(STEP_BRANCH + number);
            if (readerType != NONE && !matcher.fits(branch, readerType)) {
                fail(FAILURE_BRANCH, at);
                return;
            }
            takeOwn(branch, readerType, parent, place, level);
            stepBack();
        }

        /** Records without bytes may hold very many others: what is skipped need not be gone through. */
        private boolean isEmptyThere(int type, int level) {
            int height = shapes.emptyHeight(type);
            return height != NONE && level + height < LEVELS;
        }

        private void takeOwn(int type, int readerType, int parent, int place, int level) {
            int target = shapes.sortOf(readerType) == EITHER ? matcher.chosen(type, readerType) : readerType;
            int sort = shapes.sortOf(type);
            if (sort == RECORD) {
                takeRecord(shapes.innerOf(type), target, parent, place, level);
            } else if (sort == LIST) {
                takeList(shapes.innerOf(type), target, parent, place, level);
            } else {
                takePlain(sort, target, parent, place);
            }
        }

        /** The node of a reader's type; NONE: it has none, or there is no room. */
        private int addNode(int target, int parent, int place, int many, long worth) {
            if (target == NONE || failure != 0) {
                return NONE;
            }
            int node = tree.size < NODES ? tree.grow(shapes.sortOf(target), parent, place) : NONE;
            if (node == NONE) {
                fail(FAILURE_NODES, NONE);
            }
            tree.setWorth(node, many, worth);
            return node;
        }

        private void takeRecord(int writerRow, int target, int parent, int place, int level) {
            int readerRow = target == NONE ? NONE : shapes.innerOf(target);
            int node = addNode(target, parent, place, shapes.fieldsOf(readerRow), 0);
            findSources(writerRow, readerRow, level);
            for (int field = 0; field < shapes.fieldsOf(writerRow) && failure == 0; field++) {
                step(field);
                takeField(shapes.typeOf(writerRow, field), field, readerRow, node, level);
                stepBack();
            }
            for (int field = 0; field < shapes.fieldsOf(readerRow) && failure == 0; field++) {
                if (sourceAt(level, field) == NONE) {
                    fillIn(readerRow, field, node);
                }
            }
        }

        private void findSources(int writerRow, int readerRow, int level) {
            for (int field = 0; field < shapes.fieldsOf(readerRow); field++) {
                if (level >= 0 && level < LEVELS && field < FIELDS) {
                    sources[level * FIELDS + field] = shapes.sourceOf(writerRow, readerRow, field);
                }
            }
        }

        private int sourceAt(int level, int field) {
            return level >= 0 && level < LEVELS && field >= 0 && field < FIELDS
                    ? sources[level * FIELDS + field] : NONE;
        }

        /** Two fields of the reader may have been one of the writer: its bytes are gone through for each. */
        private void takeField(int type, int field, int readerRow, int node, int level) {
            int from = next;
            boolean taken = false;
            for (int k = 0; k < shapes.fieldsOf(readerRow) && failure == 0; k++) {
                if (sourceAt(level, k) == field) {
                    next = from;
                    taken = true;
                    take(type, shapes.typeOf(readerRow, k), node, k, level + 1);
                }
            }
            if (!taken) {
                take(type, NONE, NONE, 0, level + 1);
            }
        }

        private void fillIn(int readerRow, int field, int node) {
            int choice = shapes.firstChoice(shapes.typeOf(readerRow, field));
            long worth = shapes.elseWorth(readerRow, field);
            int many = shapes.sortOf(choice) == TEXT ? lettersIn(worth) : 0;
            tree.setFilled(addNode(choice, node, field, many, worth));
        }

        private void takeList(int innerType, int target, int parent, int place, int level) {
            int many = takeCount(next, ITEMS);
            int node = addNode(target, parent, place, many, 0);
            int readerInner = target == NONE ? NONE : shapes.innerOf(target);
            for (int item = 0; item < many && failure == 0; item++) {
                step(STEP_LIST + item);
                take(innerType, readerInner, node, item, level + 1);
                stepBack();
            }
        }

        private void takePlain(int sort, int target, int parent, int place) {
            int at = next;
            int many = 0;
            long worth = 0;
            switch (sort) {
                case FLAG:
                    worth = takeByte();
                    if (worth > 1) {
                        fail(FAILURE_VALUE, at);
                    }
                    break;
                case INT:
                case LONG:
                    worth = takeNumber(at);
                    if (sort == INT && !isInt(worth)) {
                        fail(FAILURE_VALUE, at);
                    }
                    break;
                case REAL:
                    worth = takeReal();
                    break;
                case TEXT:
                    many = takeCount(at, LETTERS);
                    worth = takeLetters(at, many);
                    break;
                default:
                    break;
            }
            boolean widened = sort != REAL && shapes.sortOf(target) == REAL;
            addNode(target, parent, place, many, widened ? bitsOfWhole(worth) : worth);
        }

        private int takeByte() {
            if (failure != 0) {
                return 0;
            }
            if (next >= end) {
                fail(FAILURE_END, end);
                return 0;
            }
            int taken = messages.byteOf(message, next);
            next++;
            return taken;
        }

        private long takeNumber(int at) {
            long parts = 0;
            for (int k = 0; k < 10; k++) {
                int part = takeByte();
                if (k == 9 && part > 1) {
                    fail(FAILURE_VALUE, at);
                }
                parts |= (long) (part & 127) << (7 * k);
                if (part < 128) {
                    break;
                }
            }
            return failure != 0 ? 0 : parts >>> 1 ^ -(parts & 1);
        }

        private int takeCount(int at, int most) {
            long count = takeNumber(at);
            if (count < 0 || count > most) {
                fail(FAILURE_VALUE, at);
            }
            return failure != 0 ? 0 : (int) count;
        }

        /** All not-numbers are one, as Double.doubleToLongBits tells them. */
        private long takeReal() {
            long bits = 0;
            for (int k = 0; k < 8; k++) {
                bits = bits << 8 | takeByte();
            }
            boolean noNumber = (bits & Long.MAX_VALUE) > 0x7ff0000000000000L;
            return noNumber ? 0x7ff8000000000000L : bits;
        }

        private long takeLetters(int at, int many) {
            long letters = 0;
            for (int k = 0; k < many && failure == 0; k++) {
                int sign = takeByte();
                if (sign < 'a' || sign > 'z') {
                    fail(FAILURE_VALUE, at);
                }
                letters |= (long) (sign - 'a' + 1) << (LETTER_BITS * k);
            }
            return letters;
        }
    }

    /** The pairs of plans used latest, the latest first. */
    private static final class Ways {
        static final int ROOM = 4;
        final int[] pairs = new int[ROOM];
        int size = 0;
        int found = 0;
        int notFound = 0;

        void clear() {
            size = 0;
            found = 0;
            notFound = 0;
        }

        int pairAt(int i) {
            return i >= 0 && i < size && i < ROOM ? pairs[i] : NONE;
        }

        void use(int writer, int reader) {
            int pair = 10 * writer + reader;
            int at = 0;
            while (at < size && pairAt(at) != pair) {
                at++;
            }
            if (at < size) {
                found++;
            } else {
                notFound++;
                size = Math.min(size + 1, ROOM);
                at = size - 1;
            }
            for (int k = Math.min(at, ROOM - 1); k > 0; k--) {
                pairs[k] = pairs[k - 1];
            }
            pairs[0] = pair;
        }
    }
}
