import java.util.Arrays;

/**
 * A machine with threads, monitors and objects that is frozen to an image of bytes and thawed again.
 * What each call answers is told by the document's promises 1 to 19.
 */
public final class FrostHouse {
    public static final int NONE = -1;

    private static final int MOST_TAPE = 65000;
    private static final int MOST_TEXT = 2000;
    private static final int MOST_STEPS = 20000;
    private static final int MOST_QUANTUM = 50;
    private static final long MOST_CLOCK = 4000000000000000000L;
    private static final int MOST_OUT = 4000;
    private static final int MOST_COUNTED = 1000000000;
    private static final int MOST_DEPTH = 20;
    private static final int MOST_NAME = 12;
    private static final int MOST_STRING = 24;
    private static final int MOST_CLASSES = 8;
    private static final int MOST_FIELDS = 8;
    private static final int MOST_STATICS = MOST_CLASSES * MOST_FIELDS;
    private static final int MOST_METHODS = 30;
    private static final int ALL_METHODS = MOST_METHODS + MOST_CLASSES;
    private static final int MOST_PARAMETERS = 4;
    private static final int MOST_VARIABLES = 12;
    private static final int MOST_STACK = 10;
    private static final int MOST_CODE = 250;
    private static final int MOST_STRINGS = 40;
    private static final int MOST_THREADS = 8;
    private static final int MOST_FRAMES = 30;
    private static final int MOST_HELD = MOST_DEPTH;
    private static final int MOST_OBJECTS = 200;
    private static final int MOST_BYTES = 40;
    private static final int MOST_INTS = 30;
    private static final int MOST_RESOURCES = 12;
    private static final int MOST_FAILURES = 20;
    private static final int MOST_HANDLES = 8;
    private static final int MOST_INT = 2147483647;
    private static final long MOST_FOUR = 4294967295L;

    private static final int KIND_TEXT = 254;
    private static final int KIND_ROW = 255;
    private static final int BYTE_NONE = 255;

    private static final int SECTIONS = 8;
    private static final int FIRST_SECTION = 7;
    private static final int SECTION_HEAD = 5;
    private static final int CRC_SIZE = 4;
    private static final int TEXT_PLACE = FIRST_SECTION + SECTION_HEAD;

    private static final int T_INT = 0;
    private static final int T_TEXT = 1;
    private static final int T_ROW = 2;
    private static final int T_NULL = 3;
    private static final int T_CLASS = 4;
    private static final int T_UNKNOWN = -1;
    private static final int T_VOID = -2;

    private static final int OP_INT = 0;
    private static final int OP_TEXT = 1;
    private static final int OP_NULL = 2;
    private static final int OP_GET = 3;
    private static final int OP_PUT = 4;
    private static final int OP_FIELD = 5;
    private static final int OP_SETFIELD = 6;
    private static final int OP_STATIC = 7;
    private static final int OP_SETSTATIC = 8;
    private static final int OP_ELEMENT = 9;
    private static final int OP_SETELEMENT = 10;
    private static final int OP_NEW = 11;
    private static final int OP_ROW = 12;
    private static final int OP_ADD = 13;
    private static final int OP_SUBTRACT = 14;
    private static final int OP_MULTIPLY = 15;
    private static final int OP_DIVIDE = 16;
    private static final int OP_REST = 17;
    private static final int OP_NEGATE = 18;
    private static final int OP_NOT = 19;
    private static final int OP_LESS = 20;
    private static final int OP_LESS_SAME = 21;
    private static final int OP_MORE = 22;
    private static final int OP_MORE_SAME = 23;
    private static final int OP_SAME_INT = 24;
    private static final int OP_OTHER_INT = 25;
    private static final int OP_SAME = 26;
    private static final int OP_OTHER = 27;
    private static final int OP_JOIN = 28;
    private static final int OP_JOIN_INT = 29;
    private static final int OP_INT_JOIN = 30;
    private static final int OP_JUMP = 31;
    private static final int OP_ZERO = 32;
    private static final int OP_CALL = 33;
    private static final int OP_SPAWN = 34;
    private static final int OP_RETURN = 35;
    private static final int OP_GIVE = 36;
    private static final int OP_THROW = 37;
    private static final int OP_ENTER = 38;
    private static final int OP_LEAVE = 39;
    private static final int OP_DROP = 40;
    private static final int OP_BUILT_IN = 41;

    private static final int B_PRINT_INT = 0;
    private static final int B_PRINT_TEXT = 1;
    private static final int B_WAIT = 2;
    private static final int B_WAIT_TIME = 3;
    private static final int B_NOTIFY = 4;
    private static final int B_ALL = 5;
    private static final int B_SLEEP = 6;
    private static final int B_INTERRUPT = 7;
    private static final int B_INTERRUPTED = 8;
    private static final int B_JOIN = 9;
    private static final int B_HASH = 10;
    private static final int B_TIME = 11;
    private static final int B_REGISTER = 12;
    private static final int B_OPEN = 13;
    private static final int B_CLOSE = 14;
    private static final int B_CHECKPOINT = 15;
    private static final int B_FAILURES = 16;
    private static final int B_FAILURE = 17;
    private static final int B_INTERN = 18;
    private static final int B_LEN_TEXT = 19;
    private static final int B_LEN_ROW = 20;
    private static final int B_ARG = 21;
    private static final int B_ME = 22;

    private static final int READY = 0;
    private static final int BLOCKED = 1;
    private static final int WAITS = 2;
    private static final int WAITS_TIME = 3;
    private static final int SLEEPS = 4;
    private static final int JOINS = 5;
    private static final int WAITS_CLASS = 6;
    private static final int DEAD = 7;
    private static final int TO_THROW = 8;

    private static final int BY_NOTIFY = 1;
    private static final int BY_TIME = 2;
    private static final int BY_INTERRUPT = 3;

    private static final int CLASS_NEW = 0;
    private static final int CLASS_BEGUN = 1;
    private static final int CLASS_DONE = 2;
    private static final int CLASS_FAILED = 3;

    private static final int PHASE_NONE = 0;
    private static final int PHASE_FREEZE = 1;
    private static final int PHASE_REFUSED = 2;
    private static final int PHASE_THAW = 3;

    private static final int NO_MACHINE = 0;
    private static final int GOES_ON = 1;
    private static final int FROZEN = 2;
    private static final int ENDED = 3;
    private static final int STUCK = 4;

    private static final int[] CRC_NIBBLES = {
        0x00000000, 0x1DB71064, 0x3B6E20C8, 0x26D930AC, 0x76DC4190, 0x6B6B51F4, 0x4DB26158, 0x5005713C,
        0xEDB88320, 0xF00F9344, 0xD6D6A3E8, 0xCB61B38C, 0x9B64C2B0, 0x86D3D2D4, 0xA00AE278, 0xBDBDF21C};

    private final byte[] tape = new byte[MOST_TAPE];
    private final byte[] image = new byte[MOST_TAPE];
    private final Maker maker = new Maker();
    private final Runner runner = new Runner();
    private final Writer writer = new Writer();
    private final Reader reader = new Reader();
    private final Rules rules = new Rules();
    private Machine machine = new Machine();
    private Machine spare = new Machine();
    private int tapeLength;
    private int imageLength;
    private int loadKind;
    private int loadPlace = NONE;
    private int restoreKind;
    private int restorePlace = NONE;

    public FrostHouse() {
    }

    public int feed(int a, int b, int c, int d, int e) {
        if (tapeLength > MOST_TAPE - 20) {
            return NONE;
        }
        setFour(tape, tapeLength, a);
        setFour(tape, tapeLength + 4, b);
        setFour(tape, tapeLength + 8, c);
        setFour(tape, tapeLength + 12, d);
        setFour(tape, tapeLength + 16, e);
        tapeLength += 20;
        return tapeLength;
    }

    public boolean end(int n) {
        if (n < 0 || n > tapeLength) {
            return false;
        }
        tapeLength = n;
        return true;
    }

    public int load(int quantum) {
        int length = tapeLength;
        tapeLength = 0;
        if (quantum < 1 || quantum > MOST_QUANTUM) {
            return NONE;
        }
        spare.program.setText(tape, 0, length);
        loadKind = maker.make(spare.program);
        loadPlace = maker.faultPlace(loadKind);
        if (loadKind != 0) {
            return NONE;
        }
        spare.begin(quantum);
        useSpare();
        return machine.program.methods;
    }

    public int fault(int what) {
        switch (what) {
            case 0:
                return loadKind;
            case 1:
                return loadPlace;
            case 2:
                return restoreKind;
            case 3:
                return restorePlace;
            default:
                return NONE;
        }
    }

    public int run(int n) {
        if (n < 0 || n > MOST_STEPS) {
            return NONE;
        }
        int done = 0;
        while (done < n && machine.status == GOES_ON && runner.step(machine)) {
            done++;
        }
        if (done > 0 && machine.status == FROZEN) {
            imageLength = writer.tellAll(machine, image, MOST_TAPE, false);
        }
        return done;
    }

    public int about(int what) {
        if (what == 1) {
            return tapeLength;
        }
        if (what == 2) {
            return imageLength;
        }
        if (machine.status == NO_MACHINE) {
            boolean counts = what == 0 || what >= 3 && what <= 10 || what == 13 || what == 14;
            return counts ? 0 : NONE;
        }
        return machine.tell(what);
    }

    public long clock() {
        return machine.status == NO_MACHINE ? NONE : machine.clock;
    }

    public int out(int i) {
        if (i < 0 || i >= machine.outCount || i >= MOST_OUT) {
            return NONE;
        }
        return machine.out[i] & 255;
    }

    public int freeze() {
        if (machine.status == NO_MACHINE || machine.handles != 0) {
            return NONE;
        }
        imageLength = writer.tellAll(machine, image, MOST_TAPE, false);
        return imageLength;
    }

    public int image(int i) {
        return i < 0 || i >= imageLength ? NONE : image[i] & 255;
    }

    public int take() {
        if (imageLength == 0) {
            return NONE;
        }
        System.arraycopy(image, 0, tape, 0, imageLength);
        tapeLength = imageLength;
        return tapeLength;
    }

    public boolean patch(int i, int v) {
        if (i < 0 || i >= tapeLength) {
            return false;
        }
        tape[i] = (byte) v;
        return true;
    }

    public boolean seal() {
        if (tapeLength < CRC_SIZE) {
            return false;
        }
        setFour(tape, tapeLength - CRC_SIZE, crcOf(tape, tapeLength - CRC_SIZE));
        return true;
    }

    public int restore(long clock, int arg) {
        if (clock < 0 || clock > MOST_CLOCK) {
            return 7;
        }
        int place = reader.layoutFault(tape, tapeLength);
        if (place != NONE) {
            return refuse(1, place);
        }
        int sealPlace = tapeLength - CRC_SIZE;
        if (crcOf(tape, sealPlace) != fourAt(tape, sealPlace)) {
            return refuse(2, sealPlace);
        }
        spare.program.setText(tape, TEXT_PLACE, reader.stopOf(1) - TEXT_PLACE);
        if (maker.make(spare.program) != 0) {
            return refuse(3, TEXT_PLACE);
        }
        place = reader.readInto(spare);
        if (place != NONE) {
            return refuse(4, place);
        }
        place = rules.firstBroken(spare, reader);
        if (place != NONE) {
            return refuse(5, place);
        }
        reader.settle(clock, arg);
        place = writer.tellAll(spare, tape, tapeLength, true);
        if (place != NONE) {
            return refuse(6, place);
        }
        useSpare();
        return refuse(0, NONE);
    }

    public boolean thaw() {
        if (machine.status != FROZEN) {
            return false;
        }
        machine.status = GOES_ON;
        return true;
    }

    public int thread(int t, int what) {
        if (machine.status == NO_MACHINE || t < 0 || t >= machine.threads.count) {
            return NONE;
        }
        return machine.tellThread(t, what);
    }

    public int method(int m, int what) {
        if (machine.status == NO_MACHINE || m < 0 || m >= machine.program.allMethods()) {
            return NONE;
        }
        return machine.program.tellMethod(m, what);
    }

    public int klass(int c, int what) {
        if (machine.status == NO_MACHINE) {
            return NONE;
        }
        if (what >= 10) {
            return machine.tellStatic(what - 10);
        }
        if (c < 0 || c >= machine.program.classes) {
            return NONE;
        }
        return machine.tellClass(c, what);
    }

    private void useSpare() {
        Machine old = machine;
        machine = spare;
        spare = old;
    }

    private int refuse(int kind, int place) {
        restoreKind = kind;
        restorePlace = place;
        return kind;
    }

    private static void setFour(byte[] row, int at, int v) {
        row[at] = (byte) (v >>> 24);
        row[at + 1] = (byte) (v >>> 16);
        row[at + 2] = (byte) (v >>> 8);
        row[at + 3] = (byte) v;
    }

    private static int fourAt(byte[] row, int at) {
        return (row[at] & 255) << 24 | (row[at + 1] & 255) << 16 | (row[at + 2] & 255) << 8 | row[at + 3] & 255;
    }

    private static int crcOf(byte[] row, int length) {
        int crc = -1;
        for (int i = 0; i < length; i++) {
            crc ^= row[i] & 255;
            crc = crc >>> 4 ^ CRC_NIBBLES[crc & 15];
            crc = crc >>> 4 ^ CRC_NIBBLES[crc & 15];
        }
        return ~crc;
    }

    /** The tokens of a text: of each its kind, its place, its size and what it is worth. */
    private static final class Tokens {
        static final int END = 0;
        static final int BAD = 1;
        static final int NAME = 2;
        static final int NUMBER = 3;
        static final int STRING = 4;
        static final int W_CATCH = 10;
        static final int W_CLASS = 11;
        static final int W_ELSE = 12;
        static final int W_IF = 13;
        static final int W_INT = 14;
        static final int W_NEW = 15;
        static final int W_NULL = 16;
        static final int W_RES = 17;
        static final int W_RETURN = 18;
        static final int W_ROW = 19;
        static final int W_SPAWN = 20;
        static final int W_STATIC = 21;
        static final int W_SYNC = 22;
        static final int W_TEXT = 23;
        static final int W_THIS = 24;
        static final int W_THROW = 25;
        static final int W_TRY = 26;
        static final int W_VOID = 27;
        static final int W_WHILE = 28;
        static final int OPEN = 40;
        static final int CLOSE = 41;
        static final int OPEN_BRACE = 42;
        static final int CLOSE_BRACE = 43;
        static final int OPEN_BRACKET = 44;
        static final int CLOSE_BRACKET = 45;
        static final int SEMICOLON = 46;
        static final int COMMA = 47;
        static final int POINT = 48;
        static final int ASSIGN = 49;
        static final int SAME = 50;
        static final int OTHER = 51;
        static final int LESS = 52;
        static final int LESS_SAME = 53;
        static final int MORE = 54;
        static final int MORE_SAME = 55;
        static final int PLUS = 56;
        static final int MINUS = 57;
        static final int TIMES = 58;
        static final int DIVIDE = 59;
        static final int REST = 60;
        static final int AND = 61;
        static final int OR = 62;
        static final int NOT = 63;
        // The order of these three lists is that of the numbers above.
        static final String WORDS = "catch class else if int new null res return row spawn static sync text this throw try void while ";
        static final int SHORTEST_WORD = 2;
        static final int LONGEST_WORD = 6;
        static final String PLAIN_SIGNS = "(){}[];,.";
        static final String COUNTING_SIGNS = "+-*/%";
        // Two ends more stand behind the end, so that a look ahead always finds a token.
        static final int ROOM = MOST_TEXT + 3;

        final int[] kind = new int[ROOM];
        final int[] place = new int[ROOM];
        final int[] size = new int[ROOM];
        // Of a name: the same number for all of its spelling; of a number its worth; of a string its number.
        final int[] value = new int[ROOM];
        // Of a token that tells the type of a member or parameter: which one.
        final int[] typed = new int[ROOM];
        private final int[] spelling = new int[ROOM];
        private final int[] spellingMix = new int[ROOM];
        private int spellings;
        byte[] text;
        int length;
        int count;
        int strings;

        Tokens() {
            text = new byte[0];
        }

        void readAll(byte[] bytes, int bytesLength) {
            text = bytes;
            length = Math.min(bytesLength, Math.min(bytes.length, MOST_TEXT));
            count = 0;
            strings = 0;
            spellings = 0;
            int at = 0;
            while (at < length) {
                int c = text[at] & 255;
                at = c == ' ' || c == '\n' ? at + 1 : Math.max(at + 1, readToken(at, c));
            }
            for (int i = 0; i < 3; i++) {
                add(END, length, 0, 0);
            }
        }

        private int readToken(int at, int c) {
            if (isLetter(c)) {
                return readName(at);
            }
            if (isDigit(c)) {
                return readNumber(at);
            }
            return c == '"' ? readString(at) : readSign(at, c);
        }

        private int readName(int at) {
            int stop = at;
            int mix = 0;
            while (stop < length && isNamed(text[stop] & 255)) {
                mix = mix * 31 + text[stop];
                stop++;
            }
            if (stop - at > MOST_NAME) {
                return readBad(at);
            }
            // Most names are too short or too long for a word: they need no look at the list.
            boolean canBeWord = stop - at >= SHORTEST_WORD && stop - at <= LONGEST_WORD;
            int word = canBeWord ? ordinal(WORDS, 0, at, stop - at) : NONE;
            if (word == NONE) {
                add(NAME, at, stop - at, spellingOf(at, stop - at, mix));
            } else {
                add(W_CATCH + word, at, stop - at, 0);
            }
            return stop;
        }

        private int spellingOf(int at, int nameSize, int mix) {
            for (int i = 0; i < spellings; i++) {
                if (spellingMix[i] == mix && isSpelled(spelling[i], at, nameSize)) {
                    return i;
                }
            }
            spelling[spellings] = count;
            spellingMix[spellings] = mix;
            spellings++;
            return spellings - 1;
        }

        private boolean isSpelled(int token, int at, int nameSize) {
            if (size[token] != nameSize) {
                return false;
            }
            for (int i = 0; i < nameSize; i++) {
                if (text[place[token] + i] != text[at + i]) {
                    return false;
                }
            }
            return true;
        }

        private int readNumber(int at) {
            int stop = at;
            long worth = 0;
            while (stop < length && isDigit(text[stop] & 255)) {
                worth = Math.min(worth * 10 + (text[stop] - '0'), 1L << 32);
                stop++;
            }
            boolean goesOn = stop < length && isNamed(text[stop] & 255);
            if (goesOn || worth > MOST_INT) {
                return readBad(at);
            }
            add(NUMBER, at, stop - at, (int) worth);
            return stop;
        }

        private int readString(int at) {
            int stop = at + 1;
            while (stop < length && text[stop] >= ' ' && text[stop] <= '~' && text[stop] != '"') {
                stop++;
            }
            if (stop >= length || text[stop] != '"' || stop - at - 1 > MOST_STRING) {
                return readBad(at);
            }
            add(STRING, at, stop + 1 - at, strings);
            strings++;
            return stop + 1;
        }

        private int readSign(int at, int c) {
            int next = at + 1 < length ? text[at + 1] & 255 : 0;
            int sign = PLAIN_SIGNS.indexOf((char) c);
            int counting = COUNTING_SIGNS.indexOf((char) c);
            int found = sign >= 0 ? OPEN + sign : counting >= 0 ? PLUS + counting : BAD;
            boolean isDouble = false;
            if (c == '=' || c == '!' || c == '<' || c == '>') {
                isDouble = next == '=';
                int single = c == '=' ? ASSIGN : c == '!' ? NOT : c == '<' ? LESS : MORE;
                int both = c == '=' ? SAME : c == '!' ? OTHER : c == '<' ? LESS_SAME : MORE_SAME;
                found = isDouble ? both : single;
            } else if ((c == '&' || c == '|') && next == c) {
                isDouble = true;
                found = c == '&' ? AND : OR;
            }
            if (found == BAD) {
                return readBad(at);
            }
            int stop = isDouble ? at + 2 : at + 1;
            add(found, at, stop - at, 0);
            return stop;
        }

        // No token behind a bad one matters: no program goes on with it.
        private int readBad(int at) {
            add(BAD, at, 0, 0);
            return length;
        }

        private void add(int newKind, int newPlace, int newSize, int newValue) {
            if (count < ROOM) {
                kind[count] = newKind;
                place[count] = newPlace;
                size[count] = newSize;
                value[count] = newValue;
                count++;
            }
        }

        /** Which word of a list, the from-th or behind it, stands in the text there; NONE without. */
        int ordinal(String list, int from, int start, int wordSize) {
            int nth = 0;
            int begin = 0;
            for (int i = 0; i < list.length(); i++) {
                if (list.charAt(i) == ' ') {
                    if (nth >= from && i - begin == wordSize && stands(list, begin, start, wordSize)) {
                        return nth;
                    }
                    nth++;
                    begin = i + 1;
                }
            }
            return NONE;
        }

        private boolean stands(String list, int begin, int start, int wordSize) {
            if (start + wordSize > length) {
                return false;
            }
            for (int i = 0; i < wordSize; i++) {
                if (list.charAt(begin + i) != (text[start + i] & 255)) {
                    return false;
                }
            }
            return true;
        }

        boolean isWord(int token, String word) {
            return size[token] == word.length() && stands(word, 0, place[token], word.length());
        }

        private static boolean isLetter(int c) {
            return c >= 'a' && c <= 'z' || c >= 'A' && c <= 'Z';
        }

        private static boolean isDigit(int c) {
            return c >= '0' && c <= '9';
        }

        private static boolean isNamed(int c) {
            return isLetter(c) || isDigit(c) || c == '_';
        }
    }

    /** Finds the first token with which no program goes on, and what the classes declare. */
    private static final class Grammar {
        static final int FIELD = 0;
        static final int STATIC = 1;
        static final int METHOD = 2;
        // A class has nine bytes at the least, a member and a parameter four.
        static final int CLASS_ROOM = MOST_TEXT / 9 + 2;
        static final int MEMBER_ROOM = MOST_TEXT / 4 + 2;

        final Tokens tokens;
        final int[] className = new int[CLASS_ROOM];
        final boolean[] classRes = new boolean[CLASS_ROOM];
        final int[] memberKind = new int[MEMBER_ROOM];
        final int[] memberClass = new int[MEMBER_ROOM];
        final int[] memberName = new int[MEMBER_ROOM];
        final int[] memberType = new int[MEMBER_ROOM];
        final int[] memberNumber = new int[MEMBER_ROOM];
        final int[] memberParameters = new int[MEMBER_ROOM];
        final boolean[] memberStatic = new boolean[MEMBER_ROOM];
        int classes;
        int members;
        int methods;
        int statics;
        int badPlace;
        private int fields;
        private int at;
        private int depth;

        Grammar(Tokens itsTokens) {
            tokens = itsTokens;
        }

        void readProgram() {
            classes = 0;
            members = 0;
            methods = 0;
            statics = 0;
            badPlace = NONE;
            at = 0;
            depth = 0;
            boolean more = true;
            for (int c = 0; c < CLASS_ROOM && more; c++) {
                readClassHead();
                for (int i = 0; i < MEMBER_ROOM && isGood() && peek() != Tokens.CLOSE_BRACE; i++) {
                    readMember();
                }
                need(Tokens.CLOSE_BRACE);
                more = isGood() && peek() != Tokens.END;
            }
        }

        private void readClassHead() {
            boolean isRes = accept(Tokens.W_RES);
            need(Tokens.W_CLASS);
            if (classes < CLASS_ROOM) {
                className[classes] = at;
                classRes[classes] = isRes;
                classes++;
            }
            need(Tokens.NAME);
            need(Tokens.OPEN_BRACE);
            fields = 0;
        }

        private void readMember() {
            boolean isStatic = accept(Tokens.W_STATIC);
            int type = at;
            boolean isVoid = accept(Tokens.W_VOID);
            if (!isVoid) {
                needType();
            }
            int name = at;
            need(Tokens.NAME);
            if (isVoid || peek() == Tokens.OPEN) {
                declare(METHOD, name, type, isStatic);
                readParameters();
                block();
            } else if (isStatic) {
                declare(STATIC, name, type, true);
                if (accept(Tokens.ASSIGN)) {
                    expression();
                }
                need(Tokens.SEMICOLON);
            } else {
                declare(FIELD, name, type, false);
                need(Tokens.SEMICOLON);
            }
        }

        private void declare(int kind, int name, int type, boolean isStatic) {
            if (members >= MEMBER_ROOM) {
                return;
            }
            memberKind[members] = kind;
            memberClass[members] = classes - 1;
            memberName[members] = name;
            memberType[members] = type;
            memberStatic[members] = isStatic;
            memberParameters[members] = 0;
            memberNumber[members] = kind == METHOD ? methods : kind == STATIC ? statics : fields;
            methods += kind == METHOD ? 1 : 0;
            statics += kind == STATIC ? 1 : 0;
            fields += kind == FIELD ? 1 : 0;
            members++;
        }

        private void readParameters() {
            need(Tokens.OPEN);
            boolean more = isGood() && peek() != Tokens.CLOSE;
            int parameters = 0;
            for (int i = 0; i < MEMBER_ROOM && more && isGood(); i++) {
                needType();
                need(Tokens.NAME);
                parameters++;
                more = accept(Tokens.COMMA);
            }
            if (members > 0) {
                memberParameters[members - 1] = parameters;
            }
            need(Tokens.CLOSE);
        }

        private void block() {
            need(Tokens.OPEN_BRACE);
            for (int i = 0; i < MOST_TEXT && isGood() && peek() != Tokens.CLOSE_BRACE; i++) {
                statement();
            }
            need(Tokens.CLOSE_BRACE);
        }

        private void statement() {
            int first = peek();
            if (first == Tokens.OPEN_BRACE) {
                block();
            } else if (first == Tokens.W_IF || first == Tokens.W_WHILE) {
                at++;
                condition();
                inner();
                if (first == Tokens.W_IF && accept(Tokens.W_ELSE)) {
                    inner();
                }
            } else if (first == Tokens.W_TRY) {
                at++;
                block();
                need(Tokens.W_CATCH);
                need(Tokens.OPEN);
                need(Tokens.NAME);
                need(Tokens.CLOSE);
                block();
            } else if (first == Tokens.W_SYNC) {
                at++;
                condition();
                block();
            } else {
                simple(first);
            }
        }

        private void simple(int first) {
            if (first == Tokens.W_RETURN || first == Tokens.W_THROW) {
                at++;
                if (first == Tokens.W_THROW || peek() != Tokens.SEMICOLON) {
                    expression();
                }
            } else if (isDeclaration(tokens, at)) {
                at++;
                need(Tokens.NAME);
                need(Tokens.ASSIGN);
                expression();
            } else {
                expression();
                if (accept(Tokens.ASSIGN)) {
                    expression();
                }
            }
            need(Tokens.SEMICOLON);
        }

        static boolean isDeclaration(Tokens tokens, int at) {
            int first = tokens.kind[at];
            boolean isName = first == Tokens.NAME && tokens.kind[at + 1] == Tokens.NAME;
            return isName || first == Tokens.W_INT || first == Tokens.W_TEXT || first == Tokens.W_ROW;
        }

        private void condition() {
            need(Tokens.OPEN);
            expression();
            need(Tokens.CLOSE);
        }

        private void inner() {
            if (!isGood()) {
                return;
            }
            if (peek() == Tokens.OPEN_BRACE) {
                block();
                return;
            }
            deepen();
            if (isGood()) {
                statement();
            }
            depth--;
        }

        private void expression() {
            boolean more = isGood();
            for (int i = 0; i < MOST_TEXT && more; i++) {
                unary();
                more = isGood() && levelOf(peek()) > 0;
                at += more ? 1 : 0;
            }
        }

        /** How tightly a sign between two parts binds; 0 of what is none such. */
        static int levelOf(int kind) {
            switch (kind) {
                case Tokens.OR:
                    return 1;
                case Tokens.AND:
                    return 2;
                case Tokens.SAME:
                case Tokens.OTHER:
                    return 3;
                case Tokens.LESS:
                case Tokens.LESS_SAME:
                case Tokens.MORE:
                case Tokens.MORE_SAME:
                    return 4;
                case Tokens.PLUS:
                case Tokens.MINUS:
                    return 5;
                case Tokens.TIMES:
                case Tokens.DIVIDE:
                case Tokens.REST:
                    return 6;
                default:
                    return 0;
            }
        }

        private void unary() {
            int first = peek();
            if (first != Tokens.MINUS && first != Tokens.NOT && first != Tokens.W_SPAWN) {
                primary(first);
                return;
            }
            deepen();
            if (isGood()) {
                at++;
                unary();
            }
            depth--;
        }

        private void primary(int first) {
            if (first == Tokens.OPEN) {
                condition();
            } else if (first == Tokens.W_NEW) {
                at++;
                made();
            } else if (first == Tokens.NAME) {
                at++;
                arguments();
            } else if (first == Tokens.NUMBER || first == Tokens.STRING || first == Tokens.W_NULL || first == Tokens.W_THIS) {
                at++;
            } else {
                fail();
            }
            for (int i = 0; i < MOST_TEXT && isGood() && isBehind(peek()); i++) {
                if (peek() == Tokens.POINT) {
                    at++;
                    need(Tokens.NAME);
                    arguments();
                } else {
                    index();
                }
            }
        }

        private static boolean isBehind(int kind) {
            return kind == Tokens.POINT || kind == Tokens.OPEN_BRACKET;
        }

        private void made() {
            if (accept(Tokens.W_ROW)) {
                index();
                return;
            }
            need(Tokens.NAME);
            need(Tokens.OPEN);
            need(Tokens.CLOSE);
        }

        private void index() {
            need(Tokens.OPEN_BRACKET);
            expression();
            need(Tokens.CLOSE_BRACKET);
        }

        private void arguments() {
            if (!isGood() || peek() != Tokens.OPEN) {
                return;
            }
            need(Tokens.OPEN);
            boolean more = isGood() && peek() != Tokens.CLOSE;
            for (int i = 0; i < MOST_TEXT && more && isGood(); i++) {
                expression();
                more = accept(Tokens.COMMA);
            }
            need(Tokens.CLOSE);
        }

        private boolean isGood() {
            return badPlace == NONE;
        }

        private int peek() {
            return tokens.kind[at];
        }

        private boolean accept(int kind) {
            boolean there = badPlace == NONE && tokens.kind[at] == kind;
            at += there ? 1 : 0;
            return there;
        }

        // Brackets count as open till they close; this one method sees them all.
        private void need(int kind) {
            boolean opens = kind == Tokens.OPEN || kind == Tokens.OPEN_BRACE || kind == Tokens.OPEN_BRACKET;
            boolean closes = kind == Tokens.CLOSE || kind == Tokens.CLOSE_BRACE || kind == Tokens.CLOSE_BRACKET;
            if (badPlace != NONE) {
                return;
            }
            if (tokens.kind[at] == kind && !(opens && depth >= MOST_DEPTH)) {
                at++;
                depth += opens ? 1 : closes ? -1 : 0;
            } else {
                badPlace = tokens.place[at];
            }
        }

        private void needType() {
            int kind = tokens.kind[at];
            if (badPlace == NONE && (kind == Tokens.W_INT || kind == Tokens.W_TEXT || kind == Tokens.W_ROW || kind == Tokens.NAME)) {
                at++;
            } else {
                fail();
            }
        }

        private void deepen() {
            if (depth >= MOST_DEPTH && badPlace == NONE) {
                badPlace = tokens.place[at];
            }
            depth++;
        }

        private void fail() {
            if (badPlace == NONE) {
                badPlace = tokens.place[at];
            }
        }
    }

    /** Makes a text to instructions, or finds its faults: of each kind the least place. */
    private static final class Maker {
        static final int NO_PLACE = MOST_INT;
        static final int KINDS = 6;
        static final int FORM_NONE = 0;
        static final int FORM_VARIABLE = 1;
        static final int FORM_FIELD = 2;
        static final int FORM_STATIC = 3;
        static final int FORM_ELEMENT = 4;
        static final int FORM_CALL = 5;
        static final int FORM_SPAWN = 6;
        static final int FORM_BUILT_IN = 7;
        static final int ALONE = 0;
        static final int BY_CLASS = 1;
        static final int BY_OBJECT = 2;
        static final int VARIABLE_ROOM = MOST_TEXT / 4;
        static final int STACK_ROOM = MOST_TEXT;
        // In the order of their numbers; what has two is told twice.
        static final String BUILT_INS = "print print wait wait notify all sleep interrupt interrupted join hash time register open close checkpoint failures failure intern len len arg me ";
        static final int WANTS_ANY = 10;
        static final int WANTS_RES = 11;
        static final int[] BUILT_IN_WANTS = {
            T_INT, T_TEXT, WANTS_ANY, WANTS_ANY, WANTS_ANY, WANTS_ANY, T_INT, T_INT, T_INT, T_INT, WANTS_ANY, T_INT,
            WANTS_RES, T_INT, T_INT, T_INT, T_INT, T_INT, T_TEXT, T_TEXT, T_ROW, T_INT, T_INT};

        final Tokens tokens = new Tokens();
        final Grammar grammar = new Grammar(tokens);
        private final int[] faults = new int[KINDS];
        private final int[] variableName = new int[VARIABLE_ROOM];
        private final int[] variableType = new int[VARIABLE_ROOM];
        private final int[] stackType = new int[STACK_ROOM];
        private Program program;
        private int at;
        private int member;
        private int start;
        private int inClass;
        private int count;
        private int variables;
        private int mostVariables;
        private int stack;
        private int mostStack;
        private int syncs;
        private int form;
        private int formNumber;
        private int voidPlace;

        /** The kind of the text's fault, 0 without one. */
        int make(Program target) {
            program = target;
            Arrays.fill(faults, NO_PLACE);
            if (target.length > MOST_TEXT) {
                note(1, MOST_TEXT);
                return 1;
            }
            tokens.readAll(target.text, target.length);
            grammar.readProgram();
            if (grammar.badPlace != NONE) {
                note(1, grammar.badPlace);
                return 1;
            }
            checkClasses();
            checkMembers();
            checkStrings();
            makeMethods();
            makeInitialisers();
            findMain();
            int kind = leastKind();
            if (kind == 0) {
                fillTables();
            }
            return kind;
        }

        int faultPlace(int kind) {
            return kind < 1 || kind >= KINDS ? NONE : faults[kind];
        }

        private int leastKind() {
            for (int kind = 1; kind < KINDS; kind++) {
                if (faults[kind] != NO_PLACE) {
                    return kind;
                }
            }
            return 0;
        }

        private void note(int kind, int place) {
            faults[kind] = Math.min(faults[kind], place);
        }

        private void checkClasses() {
            for (int c = 0; c < grammar.classes; c++) {
                int name = grammar.className[c];
                if (classNamed(name) < c) {
                    note(2, tokens.place[name]);
                }
                if (c >= MOST_CLASSES) {
                    note(4, tokens.place[name]);
                }
                if (grammar.classRes[c] && (callBack(c, "freeze") == NONE || callBack(c, "thaw") == NONE)) {
                    note(3, tokens.place[name]);
                }
            }
        }

        /** The method of a resource that is called back, NONE if the class has none such. */
        private int callBack(int c, String word) {
            for (int i = 0; i < grammar.members; i++) {
                if (grammar.memberKind[i] == Grammar.METHOD && grammar.memberClass[i] == c
                        && tokens.isWord(grammar.memberName[i], word)) {
                    return !grammar.memberStatic[i] && isPlainVoid(i) ? grammar.memberNumber[i] : NONE;
                }
            }
            return NONE;
        }

        private boolean isPlainVoid(int i) {
            return tokens.kind[grammar.memberType[i]] == Tokens.W_VOID && grammar.memberParameters[i] == 0;
        }

        private void checkMembers() {
            int staticsHere = 0;
            for (int i = 0; i < grammar.members; i++) {
                int kind = grammar.memberKind[i];
                boolean isFirst = i == 0 || grammar.memberClass[i - 1] != grammar.memberClass[i];
                staticsHere = (isFirst ? 0 : staticsHere) + (kind == Grammar.STATIC ? 1 : 0);
                int name = grammar.memberName[i];
                if (isNamedAgain(i)) {
                    note(2, tokens.place[name]);
                }
                boolean isMuch = kind == Grammar.STATIC ? staticsHere > MOST_FIELDS
                    : grammar.memberNumber[i] >= (kind == Grammar.FIELD ? MOST_FIELDS : MOST_METHODS);
                if (isMuch) {
                    note(4, tokens.place[name]);
                }
                tokens.typed[grammar.memberType[i]] = typeAt(grammar.memberType[i]);
                for (int k = 0; k < grammar.memberParameters[i]; k++) {
                    int type = name + 2 + 3 * k;
                    tokens.typed[type] = typeAt(type);
                }
            }
        }

        private boolean isNamedAgain(int i) {
            boolean isMethod = grammar.memberKind[i] == Grammar.METHOD;
            int spelling = tokens.value[grammar.memberName[i]];
            for (int j = i - 1; j >= 0 && grammar.memberClass[j] == grammar.memberClass[i]; j--) {
                boolean isOther = (grammar.memberKind[j] == Grammar.METHOD) != isMethod;
                if (!isOther && tokens.value[grammar.memberName[j]] == spelling) {
                    return true;
                }
            }
            return false;
        }

        private void checkStrings() {
            for (int i = 0; i < tokens.count; i++) {
                if (tokens.kind[i] == Tokens.STRING && tokens.value[i] >= MOST_STRINGS) {
                    note(4, tokens.place[i]);
                }
            }
        }

        private int typeAt(int token) {
            switch (tokens.kind[token]) {
                case Tokens.W_VOID:
                    return T_VOID;
                case Tokens.W_INT:
                    return T_INT;
                case Tokens.W_TEXT:
                    return T_TEXT;
                case Tokens.W_ROW:
                    return T_ROW;
                default:
                    break;
            }
            int c = classNamed(token);
            if (c == grammar.classes) {
                note(2, tokens.place[token]);
                return T_UNKNOWN;
            }
            return T_CLASS + c;
        }

        /** The first class of that name; without one how many classes there are. */
        private int classNamed(int token) {
            int c = 0;
            while (c < grammar.classes && tokens.value[grammar.className[c]] != tokens.value[token]) {
                c++;
            }
            return c;
        }

        private void makeMethods() {
            for (int i = 0; i < grammar.members; i++) {
                if (grammar.memberKind[i] != Grammar.METHOD) {
                    continue;
                }
                int name = grammar.memberName[i];
                int parameters = grammar.memberParameters[i];
                begin(i, grammar.memberClass[i], grammar.memberNumber[i]);
                if (!grammar.memberStatic[i]) {
                    declare(NONE, T_CLASS + inClass);
                }
                for (int k = 0; k < parameters; k++) {
                    declare(name + 3 + 3 * k, tokens.typed[name + 2 + 3 * k]);
                    if (k >= MOST_PARAMETERS) {
                        note(4, tokens.place[name + 3 + 3 * k]);
                    }
                }
                at = parameters == 0 ? name + 3 : name + 2 + 3 * parameters;
                block();
                int gives = tokens.typed[grammar.memberType[i]];
                if (gives != T_VOID) {
                    emit(gives == T_INT ? OP_INT : OP_NULL, 0);
                    push(gives == T_INT ? T_INT : T_NULL);
                }
                emit(gives == T_VOID ? OP_RETURN : OP_GIVE, 0);
                finish(name, grammar.memberStatic[i], parameters);
            }
        }

        private void makeInitialisers() {
            for (int c = 0; c < grammar.classes; c++) {
                begin(NONE, c, grammar.methods + c);
                for (int i = 0; i < grammar.members; i++) {
                    int name = grammar.memberName[i];
                    boolean isHere = grammar.memberClass[i] == c && grammar.memberKind[i] == Grammar.STATIC;
                    if (isHere && tokens.kind[name + 1] == Tokens.ASSIGN) {
                        at = name + 2;
                        int type = value(expression(1));
                        if (!fits(type, tokens.typed[grammar.memberType[i]])) {
                            note(3, tokens.place[name + 1]);
                        }
                        emit(OP_SETSTATIC, grammar.memberNumber[i]);
                        drop(1);
                    }
                }
                emit(OP_RETURN, 0);
                finish(grammar.className[c], true, 0);
            }
        }

        // Without a start nothing is kept: there are more methods than there may be.
        private void begin(int itsMember, int itsClass, int itsNumber) {
            member = itsMember;
            inClass = itsClass;
            start = itsNumber >= ALL_METHODS ? NONE : itsNumber == 0 ? 0 : program.behind(itsNumber - 1);
            count = 0;
            variables = 0;
            mostVariables = 0;
            stack = 0;
            mostStack = 0;
            syncs = 0;
        }

        private void finish(int name, boolean isStatic, int parameters) {
            if (count > MOST_CODE || mostStack > MOST_STACK) {
                note(4, tokens.place[name]);
            }
            int m = member == NONE ? grammar.methods + inClass : grammar.memberNumber[member];
            if (m < ALL_METHODS) {
                int base = m * Program.METHOD_FACTS;
                program.methodFacts[base] = inClass;
                program.methodFacts[base + Program.IS_STATIC] = isStatic ? 1 : 0;
                program.methodFacts[base + Program.PARAMETERS] = parameters;
                program.methodFacts[base + Program.VARIABLES] = mostVariables;
                program.methodFacts[base + Program.STACK] = mostStack;
                program.methodFacts[base + Program.LENGTH] = Math.min(count, MOST_CODE);
                program.methodFacts[base + Program.START] = start;
            }
        }

        private void findMain() {
            program.mainMethod = NONE;
            for (int i = grammar.members - 1; i >= 0; i--) {
                if (grammar.memberKind[i] == Grammar.METHOD && grammar.memberStatic[i] && isPlainVoid(i)
                        && tokens.isWord(grammar.memberName[i], "main")) {
                    program.mainMethod = grammar.memberNumber[i];
                }
            }
            if (program.mainMethod == NONE) {
                note(5, tokens.length);
            }
        }

        private void fillTables() {
            program.classes = grammar.classes;
            program.methods = grammar.methods;
            program.statics = grammar.statics;
            for (int c = 0; c < grammar.classes; c++) {
                int base = c * Program.CLASS_FACTS;
                program.classFacts[base] = 0;
                program.classFacts[base + Program.STATICS] = 0;
                program.classFacts[base + Program.IS_RES] = grammar.classRes[c] ? 1 : 0;
                program.classFacts[base + Program.FREEZE] = callBack(c, "freeze");
                program.classFacts[base + Program.THAW] = callBack(c, "thaw");
            }
            for (int i = 0; i < grammar.members; i++) {
                int c = grammar.memberClass[i];
                int number = grammar.memberNumber[i];
                int type = tokens.typed[grammar.memberType[i]];
                if (grammar.memberKind[i] == Grammar.FIELD) {
                    program.fieldType[c * MOST_FIELDS + number] = type;
                    program.classFacts[c * Program.CLASS_FACTS]++;
                } else if (grammar.memberKind[i] == Grammar.STATIC) {
                    program.staticType[number] = type;
                    program.staticClass[number] = c;
                    program.classFacts[c * Program.CLASS_FACTS + Program.STATICS]++;
                }
            }
            for (int i = 0; i < tokens.count; i++) {
                if (tokens.kind[i] == Tokens.STRING) {
                    program.stringPlace[tokens.value[i]] = tokens.place[i] + 1;
                    program.stringSize[tokens.value[i]] = tokens.size[i] - 2;
                }
            }
        }

        private void block() {
            int seen = variables;
            at++;
            for (int i = 0; i < MOST_TEXT && tokens.kind[at] != Tokens.CLOSE_BRACE; i++) {
                statement();
            }
            at++;
            variables = seen;
        }

        private void inner() {
            int seen = variables;
            statement();
            variables = seen;
        }

        private void statement() {
            switch (tokens.kind[at]) {
                case Tokens.OPEN_BRACE:
                    block();
                    break;
                case Tokens.W_IF:
                    choice();
                    break;
                case Tokens.W_WHILE:
                    loop();
                    break;
                case Tokens.W_TRY:
                    attempt();
                    break;
                case Tokens.W_SYNC:
                    guarded();
                    break;
                case Tokens.W_RETURN:
                    giveBack();
                    break;
                case Tokens.W_THROW:
                    thrown();
                    break;
                default:
                    if (Grammar.isDeclaration(tokens, at)) {
                        declaration();
                    } else {
                        assignment();
                    }
                    break;
            }
        }

        private void choice() {
            int away = condition();
            inner();
            if (tokens.kind[at] != Tokens.W_ELSE) {
                setNumber(away, count);
                return;
            }
            at++;
            int over = count;
            emit(OP_JUMP, 0);
            setNumber(away, count);
            inner();
            setNumber(over, count);
        }

        private void loop() {
            int again = count;
            int away = condition();
            inner();
            emit(OP_JUMP, again);
            setNumber(away, count);
        }

        /** Behind a word the int in brackets and the jump if it is 0: which instruction that is. */
        private int condition() {
            int first = at + 2;
            at = first;
            int type = value(expression(1));
            at++;
            if (type != T_INT && type != T_UNKNOWN) {
                note(3, tokens.place[first]);
            }
            int away = count;
            emit(OP_ZERO, 0);
            drop(1);
            return away;
        }

        private void attempt() {
            int from = count;
            at++;
            block();
            int to = count;
            emit(OP_JUMP, 0);
            for (int i = from; i < to; i++) {
                setHandler(i, count);
            }
            int name = at + 2;
            int seen = variables;
            push(T_INT);
            emit(OP_PUT, variables);
            drop(1);
            declare(name, T_INT);
            at = name + 2;
            block();
            variables = seen;
            setNumber(to, count);
        }

        private void guarded() {
            int word = at;
            at += 2;
            int type = value(expression(1));
            at++;
            if (type == T_INT || type == T_NULL) {
                note(3, tokens.place[word]);
            }
            emit(OP_ENTER, 0);
            drop(1);
            syncs++;
            block();
            emit(OP_LEAVE, 0);
            syncs--;
        }

        private void giveBack() {
            int word = at;
            int gives = member == NONE ? T_VOID : tokens.typed[grammar.memberType[member]];
            at++;
            boolean isEmpty = tokens.kind[at] == Tokens.SEMICOLON;
            int type = isEmpty ? T_VOID : value(expression(1));
            at++;
            boolean isRight = gives == T_VOID ? isEmpty : !isEmpty && fits(type, gives);
            if (!isRight) {
                note(3, tokens.place[word]);
            }
            emit(isEmpty ? OP_RETURN : OP_GIVE, 0);
            drop(isEmpty ? 0 : 1);
        }

        private void thrown() {
            int word = at;
            at++;
            int type = value(expression(1));
            at++;
            if (type != T_INT && type != T_UNKNOWN) {
                note(3, tokens.place[word]);
            }
            emit(OP_THROW, 0);
            drop(1);
        }

        private void declaration() {
            int name = at + 1;
            int type = typeAt(at);
            at = name + 2;
            int given = value(expression(1));
            at++;
            if (!fits(given, type)) {
                note(3, tokens.place[name + 1]);
            }
            emit(OP_PUT, variables);
            drop(1);
            declare(name, type);
        }

        private void assignment() {
            int first = at;
            int type = expression(1);
            if (tokens.kind[at] != Tokens.ASSIGN) {
                at++;
                if (form != FORM_CALL && form != FORM_SPAWN && form != FORM_BUILT_IN) {
                    note(3, tokens.place[first]);
                }
                if (type != T_VOID) {
                    emit(OP_DROP, 0);
                    drop(1);
                }
                return;
            }
            type = value(type);
            int sign = at;
            int target = form;
            int number = formNumber;
            at++;
            takeBack(target, number);
            int given = value(expression(1));
            at++;
            boolean isTarget = target >= FORM_VARIABLE && target <= FORM_ELEMENT;
            if (!isTarget || !fits(given, type)) {
                note(3, tokens.place[sign]);
            }
            store(target, number);
        }

        // The left side was made as if its value were wanted: its last instruction goes, what that took comes again.
        private void takeBack(int target, int number) {
            if (target < FORM_VARIABLE || target > FORM_ELEMENT) {
                return;
            }
            count--;
            drop(1);
            if (target == FORM_FIELD) {
                push(T_CLASS + grammar.memberClass[number]);
            } else if (target == FORM_ELEMENT) {
                push(T_ROW);
                push(T_INT);
            }
        }

        private void store(int target, int number) {
            if (target == FORM_FIELD) {
                emit(OP_SETFIELD, grammar.memberNumber[number]);
            } else if (target == FORM_STATIC) {
                emit(OP_SETSTATIC, grammar.memberNumber[number]);
            } else if (target == FORM_ELEMENT) {
                emit(OP_SETELEMENT, 0);
            } else {
                emit(OP_PUT, number);
            }
            stack = 0;
        }

        private int expression(int least) {
            int type = unary();
            int level = Grammar.levelOf(tokens.kind[at]);
            for (int i = 0; i < MOST_TEXT && level >= least; i++) {
                int sign = at;
                at++;
                int left = value(type);
                int hole = shortcut(tokens.kind[sign]);
                int right = value(expression(level + 1));
                type = joinedType(sign, left, right);
                if (hole == NONE) {
                    emit(codeOf(tokens.kind[sign], left, right), 0);
                    drop(2);
                    push(type);
                } else {
                    endShortcut(tokens.kind[sign], hole, type);
                }
                level = Grammar.levelOf(tokens.kind[at]);
            }
            return type;
        }

        // What is ahead of the second part of && and ||: the first jump's instruction, NONE for other signs.
        private int shortcut(int sign) {
            if (sign != Tokens.AND && sign != Tokens.OR) {
                return NONE;
            }
            int hole = count;
            emit(OP_ZERO, 0);
            drop(1);
            if (sign == Tokens.OR) {
                emit(OP_INT, 1);
                push(T_INT);
                emit(OP_JUMP, 0);
                drop(1);
                setNumber(hole, count);
            }
            return hole;
        }

        private int joinedType(int sign, int left, int right) {
            form = FORM_NONE;
            int kind = tokens.kind[sign];
            boolean isKnown = left != T_UNKNOWN && right != T_UNKNOWN;
            boolean isRight;
            if (kind == Tokens.PLUS) {
                isRight = isAddable(left) && isAddable(right);
            } else if (kind == Tokens.SAME || kind == Tokens.OTHER) {
                isRight = !isKnown || isComparable(left, right);
            } else {
                isRight = (left == T_INT || left == T_UNKNOWN) && (right == T_INT || right == T_UNKNOWN);
            }
            if (!isRight) {
                note(3, tokens.place[sign]);
            }
            if (!isKnown || !isRight) {
                return T_UNKNOWN;
            }
            return kind == Tokens.PLUS && (left == T_TEXT || right == T_TEXT) ? T_TEXT : T_INT;
        }

        private static boolean isAddable(int type) {
            return type == T_INT || type == T_TEXT || type == T_UNKNOWN;
        }

        private static boolean isComparable(int left, int right) {
            return left == right || left == T_NULL && right != T_INT || right == T_NULL && left != T_INT;
        }

        private void endShortcut(int kind, int hole, int type) {
            emit(OP_NOT, 0);
            emit(OP_NOT, 0);
            int over = hole + 2;
            if (kind == Tokens.AND) {
                over = count;
                emit(OP_JUMP, 0);
                setNumber(hole, count);
                drop(1);
                emit(OP_INT, 0);
                push(T_INT);
            }
            setNumber(over, count);
            drop(1);
            push(type);
        }

        private static int codeOf(int kind, int left, int right) {
            if (kind == Tokens.PLUS) {
                return left == T_TEXT ? (right == T_TEXT ? OP_JOIN : OP_JOIN_INT) : right == T_TEXT ? OP_INT_JOIN : OP_ADD;
            }
            if (kind == Tokens.SAME) {
                return left == T_INT ? OP_SAME_INT : OP_SAME;
            }
            if (kind == Tokens.OTHER) {
                return left == T_INT ? OP_OTHER_INT : OP_OTHER;
            }
            return kind >= Tokens.PLUS ? OP_ADD + kind - Tokens.PLUS : OP_LESS + kind - Tokens.LESS;
        }

        private int unary() {
            int sign = at;
            if (tokens.kind[at] == Tokens.W_SPAWN) {
                at++;
                return spawned(sign, unary());
            }
            if (tokens.kind[at] == Tokens.MINUS || tokens.kind[at] == Tokens.NOT) {
                at++;
                return negated(sign, value(unary()));
            }
            return primary();
        }

        private int negated(int sign, int type) {
            form = FORM_NONE;
            if (type != T_INT && type != T_UNKNOWN) {
                note(3, tokens.place[sign]);
            }
            int result = type == T_INT ? T_INT : T_UNKNOWN;
            emit(tokens.kind[sign] == Tokens.NOT ? OP_NOT : OP_NEGATE, 0);
            drop(1);
            push(result);
            return result;
        }

        // It asks for a void method, not for a type: that its args are wrong does not matter.
        private int spawned(int word, int type) {
            boolean isKnown = form == FORM_CALL && formNumber != NONE;
            boolean isVoid = isKnown && tokens.typed[grammar.memberType[formNumber]] == T_VOID;
            boolean isRight = form == FORM_CALL && (isVoid || !isKnown);
            form = FORM_SPAWN;
            if (!isRight) {
                note(3, tokens.place[word]);
            }
            if (type == T_VOID) {
                setCode(count - 1, OP_SPAWN);
            } else {
                drop(1);
            }
            int result = type == T_VOID ? T_INT : T_UNKNOWN;
            push(result);
            return result;
        }

        private int primary() {
            int type = T_UNKNOWN;
            int kind = tokens.kind[at];
            if (kind == Tokens.OPEN) {
                at++;
                type = expression(1);
                at++;
            } else if (kind == Tokens.W_NEW) {
                type = made();
            } else if (kind == Tokens.NAME && tokens.kind[at + 1] == Tokens.OPEN) {
                type = callAlone();
            } else if (kind == Tokens.NAME) {
                type = named();
            } else {
                type = constant(kind);
            }
            for (int i = 0; i < MOST_TEXT && (tokens.kind[at] == Tokens.POINT || tokens.kind[at] == Tokens.OPEN_BRACKET); i++) {
                int base = value(type);
                type = tokens.kind[at] == Tokens.POINT ? behindPoint(base) : element(base);
            }
            return type;
        }

        private int constant(int kind) {
            int token = at;
            at++;
            form = FORM_NONE;
            int type = kind == Tokens.NUMBER ? T_INT : kind == Tokens.STRING ? T_TEXT : T_NULL;
            if (kind == Tokens.NUMBER || kind == Tokens.STRING) {
                emit(kind == Tokens.NUMBER ? OP_INT : OP_TEXT, tokens.value[token]);
            } else if (kind == Tokens.W_NULL) {
                emit(OP_NULL, 0);
            } else {
                emit(OP_GET, 0);
                type = isStaticHere() ? T_UNKNOWN : T_CLASS + inClass;
                if (type == T_UNKNOWN) {
                    note(3, tokens.place[token]);
                }
            }
            push(type);
            return type;
        }

        private boolean isStaticHere() {
            return member == NONE || grammar.memberStatic[member];
        }

        private int variableNamed(int token) {
            for (int i = variables - 1; i >= 0; i--) {
                if (variableName[i] != NONE && tokens.value[variableName[i]] == tokens.value[token]) {
                    return i;
                }
            }
            return NONE;
        }

        /** The first member of a class with that name and one of two kinds, NONE without. */
        private int memberNamed(int c, int token, int oneKind, int otherKind) {
            for (int i = 0; i < grammar.members; i++) {
                boolean isKind = grammar.memberKind[i] == oneKind || grammar.memberKind[i] == otherKind;
                if (isKind && grammar.memberClass[i] == c && tokens.value[grammar.memberName[i]] == tokens.value[token]) {
                    return i;
                }
            }
            return NONE;
        }

        private int named() {
            int token = at;
            at++;
            int variable = variableNamed(token);
            if (variable != NONE) {
                emit(OP_GET, variable);
                form = FORM_VARIABLE;
                formNumber = variable;
                push(variableType[variable]);
                return variableType[variable];
            }
            int i = memberNamed(inClass, token, Grammar.FIELD, Grammar.STATIC);
            int c = classNamed(token);
            if (i == NONE && tokens.kind[at] == Tokens.POINT && c < grammar.classes) {
                at++;
                return behindClass(c);
            }
            if (i != NONE && grammar.memberKind[i] == Grammar.STATIC) {
                return staticValue(i);
            }
            if (i != NONE && !isStaticHere()) {
                emit(OP_GET, 0);
                push(T_CLASS + inClass);
                return fieldValue(i);
            }
            note(i == NONE ? 2 : 3, tokens.place[token]);
            form = FORM_NONE;
            push(T_UNKNOWN);
            return T_UNKNOWN;
        }

        private int staticValue(int i) {
            int type = tokens.typed[grammar.memberType[i]];
            emit(OP_STATIC, grammar.memberNumber[i]);
            push(type);
            form = FORM_STATIC;
            formNumber = i;
            return type;
        }

        private int fieldValue(int i) {
            int type = tokens.typed[grammar.memberType[i]];
            emit(OP_FIELD, grammar.memberNumber[i]);
            drop(1);
            push(type);
            form = FORM_FIELD;
            formNumber = i;
            return type;
        }

        private int made() {
            boolean isRow = tokens.kind[at + 1] == Tokens.W_ROW;
            int token = at + 1;
            int type = T_ROW;
            at += 3;
            if (isRow) {
                int size = value(expression(1));
                if (size != T_INT && size != T_UNKNOWN) {
                    note(3, tokens.place[token + 1]);
                    type = T_UNKNOWN;
                }
                type = size == T_UNKNOWN ? T_UNKNOWN : type;
                emit(OP_ROW, 0);
                drop(1);
            } else {
                type = typeAt(token);
                emit(OP_NEW, type - T_CLASS);
            }
            at++;
            push(type);
            form = FORM_NONE;
            return type;
        }

        private int element(int base) {
            int bracket = at;
            at++;
            int index = value(expression(1));
            at++;
            boolean isRight = (base == T_ROW || base == T_UNKNOWN) && (index == T_INT || index == T_UNKNOWN);
            if (!isRight) {
                note(3, tokens.place[bracket]);
            }
            int type = base == T_ROW && index == T_INT ? T_INT : T_UNKNOWN;
            emit(OP_ELEMENT, 0);
            drop(2);
            push(type);
            form = FORM_ELEMENT;
            return type;
        }

        private int behindClass(int c) {
            int name = at;
            at++;
            if (tokens.kind[at] == Tokens.OPEN) {
                int i = memberNamed(c, name, Grammar.METHOD, Grammar.METHOD);
                return i == NONE ? callNone(name, 2, 0) : callMethod(i, name, BY_CLASS);
            }
            int i = memberNamed(c, name, Grammar.STATIC, Grammar.STATIC);
            if (i != NONE) {
                return staticValue(i);
            }
            note(2, tokens.place[name]);
            form = FORM_NONE;
            push(T_UNKNOWN);
            return T_UNKNOWN;
        }

        private int behindPoint(int base) {
            int point = at;
            int name = at + 1;
            at += 2;
            boolean isCall = tokens.kind[at] == Tokens.OPEN;
            int wanted = isCall ? Grammar.METHOD : Grammar.FIELD;
            int i = base < T_CLASS ? NONE : memberNamed(base - T_CLASS, name, wanted, wanted);
            if (base < T_CLASS && base != T_UNKNOWN) {
                note(3, tokens.place[point]);
            } else if (base >= T_CLASS && i == NONE) {
                note(2, tokens.place[name]);
            }
            if (i != NONE) {
                return isCall ? callMethod(i, name, BY_OBJECT) : fieldValue(i);
            }
            if (isCall) {
                return callNone(name, 0, 1);
            }
            form = FORM_NONE;
            drop(1);
            push(T_UNKNOWN);
            return T_UNKNOWN;
        }

        private int callAlone() {
            int name = at;
            at++;
            int i = memberNamed(inClass, name, Grammar.METHOD, Grammar.METHOD);
            if (i != NONE) {
                return callMethod(i, name, ALONE);
            }
            int b = tokens.ordinal(BUILT_INS, 0, tokens.place[name], tokens.size[name]);
            if (b == NONE) {
                return callNone(name, 2, 0);
            }
            int base = stack;
            int given = arguments();
            for (int k = 0; k < BUILT_IN_WANTS.length && b != NONE && !builtInFits(b, base, given); k++) {
                b = tokens.ordinal(BUILT_INS, b + 1, tokens.place[name], tokens.size[name]);
            }
            if (b == NONE) {
                note(3, tokens.place[name]);
            }
            int type = b == NONE ? T_UNKNOWN : b == B_INTERN ? T_TEXT : T_INT;
            emit(OP_BUILT_IN, b);
            drop(given);
            push(type);
            form = FORM_BUILT_IN;
            return type;
        }

        private boolean builtInFits(int b, int base, int given) {
            int wants = Program.BUILT_IN_SIZES[b];
            if (given != wants) {
                return false;
            }
            if (wants == 0) {
                return true;
            }
            int type = stackType[Math.min(base, STACK_ROOM - 1)];
            int second = stackType[Math.min(base + 1, STACK_ROOM - 1)];
            if (wants == 2 && !fits(second, T_INT)) {
                return false;
            }
            if (type == T_UNKNOWN) {
                return true;
            }
            switch (BUILT_IN_WANTS[b]) {
                case WANTS_ANY:
                    return type != T_INT && type != T_NULL;
                case WANTS_RES:
                    return type >= T_CLASS && grammar.classRes[type - T_CLASS];
                default:
                    return fits(type, BUILT_IN_WANTS[b]);
            }
        }

        /** A call of what there is not, or of what is not known: its args are looked at, it has no type. */
        private int callNone(int name, int kind, int objects) {
            if (kind != 0) {
                note(kind, tokens.place[name]);
            }
            int given = arguments();
            drop(given + objects);
            push(T_UNKNOWN);
            form = FORM_CALL;
            formNumber = NONE;
            return T_UNKNOWN;
        }

        private int callMethod(int i, int name, int way) {
            boolean isStatic = grammar.memberStatic[i];
            boolean isRight = way == ALONE ? isStatic || !isStaticHere() : isStatic == (way == BY_CLASS);
            if (way == ALONE && !isStatic) {
                emit(OP_GET, 0);
                push(T_CLASS + inClass);
            }
            boolean hasObject = way == BY_OBJECT || way == ALONE && !isStatic;
            int base = stack;
            int given = arguments();
            isRight = isRight && argumentsFit(i, base, given);
            if (!isRight) {
                note(3, tokens.place[name]);
            }
            int type = isRight ? tokens.typed[grammar.memberType[i]] : T_UNKNOWN;
            emit(OP_CALL, grammar.memberNumber[i]);
            drop(given + (hasObject ? 1 : 0));
            if (type == T_VOID) {
                voidPlace = tokens.place[name];
            } else {
                push(type);
            }
            form = FORM_CALL;
            formNumber = i;
            return type;
        }

        private int arguments() {
            int given = 0;
            at++;
            for (int i = 0; i < MOST_TEXT && tokens.kind[at] != Tokens.CLOSE; i++) {
                value(expression(1));
                given++;
                at += tokens.kind[at] == Tokens.COMMA ? 1 : 0;
            }
            at++;
            return given;
        }

        private boolean argumentsFit(int i, int base, int given) {
            if (given != grammar.memberParameters[i] || base + given > STACK_ROOM) {
                return false;
            }
            for (int k = 0; k < given; k++) {
                if (!fits(stackType[base + k], tokens.typed[grammar.memberName[i] + 2 + 3 * k])) {
                    return false;
                }
            }
            return true;
        }

        private static boolean fits(int given, int wanted) {
            boolean isUnknown = given == T_UNKNOWN || wanted == T_UNKNOWN;
            return isUnknown || given == wanted || given == T_NULL && wanted != T_INT;
        }

        // A call of void within anything else is broken at its name.
        private int value(int type) {
            if (type != T_VOID) {
                return type;
            }
            note(3, voidPlace);
            push(T_UNKNOWN);
            return T_UNKNOWN;
        }

        private void declare(int name, int type) {
            if (name != NONE && variableNamed(name) != NONE) {
                note(2, tokens.place[name]);
            }
            if (name != NONE && variables >= MOST_VARIABLES) {
                note(4, tokens.place[name]);
            }
            if (variables < VARIABLE_ROOM) {
                variableName[variables] = name;
                variableType[variables] = type;
                variables++;
            }
            mostVariables = Math.max(mostVariables, variables);
        }

        private void emit(int code, int number) {
            if (start != NONE && count < MOST_CODE && start + count < Program.CODE_ROOM) {
                long variableTypes = 0;
                for (int i = 0; i < variables && i < MOST_VARIABLES; i++) {
                    variableTypes |= (long) (variableType[i] & 15) << 4 * i;
                }
                long stackTypes = 0;
                for (int i = 0; i < stack && i < MOST_STACK; i++) {
                    stackTypes |= (long) (stackType[i] & 15) << 4 * i;
                }
                int x = start + count;
                program.code[x] = code;
                program.number[x] = number;
                program.handler[x] = NONE;
                program.stand[x] = Math.min(variables, 255) | Math.min(stack, 255) << 8 | syncs << 16;
                program.variableTypes[x] = variableTypes;
                program.stackTypes[x] = stackTypes;
            }
            count++;
        }

        private void setCode(int i, int code) {
            if (start != NONE && i >= 0 && i < MOST_CODE && start + i < Program.CODE_ROOM) {
                program.code[start + i] = code;
            }
        }

        private void setNumber(int i, int number) {
            if (start != NONE && i < MOST_CODE && start + i < Program.CODE_ROOM) {
                program.number[start + i] = number;
            }
        }

        // A try within has set its own handlers ahead of the one around it.
        private void setHandler(int i, int handler) {
            boolean isKept = start != NONE && i < MOST_CODE && start + i < Program.CODE_ROOM;
            if (isKept && program.handler[start + i] == NONE) {
                program.handler[start + i] = handler;
            }
        }

        private void push(int type) {
            if (stack < STACK_ROOM) {
                stackType[stack] = type;
            }
            stack++;
            mostStack = Math.max(mostStack, stack);
        }

        private void drop(int values) {
            stack = Math.max(0, stack - values);
        }
    }

    /** A text made to instructions, with what stands ahead of each: variables, stack, syncs. */
    private static final class Program {
        static final int METHOD_FACTS = 7;
        static final int IS_STATIC = 1;
        static final int PARAMETERS = 2;
        static final int VARIABLES = 3;
        static final int STACK = 4;
        static final int LENGTH = 5;
        static final int START = 6;
        static final int CLASS_FACTS = 5;
        static final int STATICS = 1;
        static final int IS_RES = 2;
        static final int FREEZE = 3;
        static final int THAW = 4;
        // No text makes more: three bytes, such as ||f with a field f, make seven instructions at the most.
        static final int CODE_ROOM = MOST_TEXT * 7 / 3 + 100;
        static final int[] BUILT_IN_SIZES = {1, 1, 1, 2, 1, 1, 1, 1, 0, 1, 1, 0, 1, 0, 1, 0, 0, 1, 1, 1, 1, 0, 0};

        final byte[] text = new byte[MOST_TEXT];
        final int[] methodFacts = new int[ALL_METHODS * METHOD_FACTS];
        final int[] classFacts = new int[MOST_CLASSES * CLASS_FACTS];
        final int[] fieldType = new int[MOST_CLASSES * MOST_FIELDS];
        final int[] staticType = new int[MOST_STATICS];
        final int[] staticClass = new int[MOST_STATICS];
        final int[] stringPlace = new int[MOST_STRINGS];
        final int[] stringSize = new int[MOST_STRINGS];
        final int[] code = new int[CODE_ROOM];
        final int[] number = new int[CODE_ROOM];
        final int[] handler = new int[CODE_ROOM];
        final int[] stand = new int[CODE_ROOM];
        final long[] variableTypes = new long[CODE_ROOM];
        final long[] stackTypes = new long[CODE_ROOM];
        int length;
        int classes;
        int methods;
        int statics;
        int mainMethod;

        void setText(byte[] from, int start, int size) {
            length = size;
            System.arraycopy(from, start, text, 0, Math.min(size, MOST_TEXT));
        }

        int allMethods() {
            return methods + classes;
        }

        /** The index of a method's instruction in the rows of all. */
        int at(int m, int i) {
            return methodFacts[m * METHOD_FACTS + START] + i;
        }

        int behind(int m) {
            return methodFacts[m * METHOD_FACTS + START] + methodFacts[m * METHOD_FACTS + LENGTH];
        }

        int methodFact(int m, int fact) {
            return methodFacts[m * METHOD_FACTS + fact];
        }

        int classFact(int c, int fact) {
            return classFacts[c * CLASS_FACTS + fact];
        }

        int variablesAt(int x) {
            return stand[x] & 255;
        }

        int stackAt(int x) {
            return stand[x] >> 8 & 255;
        }

        int syncsAt(int x) {
            return stand[x] >> 16;
        }

        int variableTypeAt(int x, int i) {
            return (int) (variableTypes[x] >> 4 * i) & 15;
        }

        int stackTypeAt(int x, int i) {
            return (int) (stackTypes[x] >> 4 * i) & 15;
        }

        /** The class that the instruction wants, NONE if it wants none. */
        int wantedAt(int x) {
            int n = number[x];
            switch (code[x]) {
                case OP_STATIC:
                case OP_SETSTATIC:
                    return staticClass[n];
                case OP_NEW:
                    return n;
                case OP_CALL:
                case OP_SPAWN:
                    return methodFacts[n * METHOD_FACTS + IS_STATIC] == 1 ? methodFacts[n * METHOD_FACTS] : NONE;
                default:
                    return NONE;
            }
        }

        /** How many values the instruction takes from the stack as its args, the object too. */
        int takesAt(int x) {
            int n = number[x];
            switch (code[x]) {
                case OP_CALL:
                case OP_SPAWN:
                    return methodFacts[n * METHOD_FACTS + PARAMETERS] + 1 - methodFacts[n * METHOD_FACTS + IS_STATIC];
                case OP_ENTER:
                    return 1;
                case OP_BUILT_IN:
                    return BUILT_IN_SIZES[n];
                default:
                    return 0;
            }
        }

        boolean isBuiltIn(int x, int b) {
            return code[x] == OP_BUILT_IN && number[x] == b;
        }

        boolean isWait(int x) {
            return code[x] == OP_BUILT_IN && (number[x] == B_WAIT || number[x] == B_WAIT_TIME);
        }

        int tellMethod(int m, int what) {
            if (what >= 0 && what <= LENGTH) {
                return methodFacts[m * METHOD_FACTS + what];
            }
            int i = what >= 1000 ? what - 1000 : what - 100;
            if (what < 100 || i >= methodFacts[m * METHOD_FACTS + LENGTH]) {
                return NONE;
            }
            int x = methodFacts[m * METHOD_FACTS + START] + i;
            return what >= 1000 ? number[x] : code[x];
        }
    }

    /** Objects, texts and rows in slots 1 .. 200, and the lists of them; slot 0 is null. */
    private static final class Heap {
        static final int FREE = -1;
        static final int SLOTS = MOST_OBJECTS + 1;

        final int[] kind = new int[SLOTS];
        final int[] hash = new int[SLOTS];
        final int[] size = new int[SLOTS];
        final int[] cell = new int[SLOTS * MOST_BYTES];
        final int[] owner = new int[SLOTS];
        final int[] often = new int[SLOTS];
        // What the latest look at all that can be reached found: a number for each, and each by its number.
        final int[] number = new int[SLOTS];
        final int[] order = new int[SLOTS];
        final int[] interned = new int[MOST_OBJECTS];
        final int[] registered = new int[MOST_RESOURCES];
        final int[] list = new int[MOST_RESOURCES];
        final int[] statics = new int[MOST_STATICS];
        int seed;
        int reached;
        int internedCount;
        int registeredCount;
        int listCount;
        private int lastMade;

        void clear() {
            Arrays.fill(kind, FREE);
            Arrays.fill(number, 0);
            Arrays.fill(statics, 0);
            seed = 1;
            internedCount = 0;
            registeredCount = 0;
            listCount = 0;
            reached = 0;
            lastMade = 0;
        }

        void forget() {
            Arrays.fill(number, 0);
            reached = 0;
        }

        void touch(int o) {
            if (o > 0 && o < SLOTS && number[o] == 0) {
                reached++;
                number[o] = reached;
                order[reached] = o;
            }
        }

        void sweep() {
            for (int o = 1; o < SLOTS; o++) {
                if (number[o] == 0) {
                    kind[o] = FREE;
                }
            }
            int kept = 0;
            for (int i = 0; i < registeredCount; i++) {
                if (number[registered[i]] != 0) {
                    registered[kept] = registered[i];
                    kept++;
                }
            }
            registeredCount = kept;
        }

        int freeSlot() {
            for (int i = 1; i <= MOST_OBJECTS; i++) {
                int o = (lastMade + i - 1) % MOST_OBJECTS + 1;
                if (kind[o] == FREE) {
                    return o;
                }
            }
            return 0;
        }

        void setUp(int o, int newKind, int newSize) {
            kind[o] = newKind;
            size[o] = newSize;
            hash[o] = 0;
            owner[o] = NONE;
            often[o] = 0;
            Arrays.fill(cell, o * MOST_BYTES, (o + 1) * MOST_BYTES, 0);
            lastMade = o;
        }

        void addByte(int o, int c) {
            if (size[o] < MOST_BYTES) {
                cell[o * MOST_BYTES + size[o]] = c;
                size[o]++;
            }
        }

        void addInterned(int o) {
            if (internedCount < MOST_OBJECTS) {
                interned[internedCount] = o;
                internedCount++;
            }
        }

        boolean isAlike(int one, int two) {
            if (size[one] != size[two]) {
                return false;
            }
            for (int i = 0; i < size[one]; i++) {
                if (cell[one * MOST_BYTES + i] != cell[two * MOST_BYTES + i]) {
                    return false;
                }
            }
            return true;
        }

        int registeredReached() {
            int found = 0;
            for (int i = 0; i < registeredCount; i++) {
                found += number[registered[i]] != 0 ? 1 : 0;
            }
            return found;
        }

        boolean isRegistered(int o) {
            for (int i = 0; i < registeredCount; i++) {
                if (registered[i] == o) {
                    return true;
                }
            }
            return false;
        }
    }

    /** Threads and their frames: frame k of thread t has the number t * 30 + k. */
    private static final class Threads {
        static final int ALL_FRAMES = MOST_THREADS * MOST_FRAMES;

        final int[] state = new int[MOST_THREADS];
        final boolean[] interrupted = new boolean[MOST_THREADS];
        final int[] deadBy = new int[MOST_THREADS];
        final long[] time = new long[MOST_THREADS];
        final int[] object = new int[MOST_THREADS];
        final int[] had = new int[MOST_THREADS];
        final int[] outcome = new int[MOST_THREADS];
        final int[] joined = new int[MOST_THREADS];
        final int[] wanted = new int[MOST_THREADS];
        final int[] stamp = new int[MOST_THREADS];
        final int[] frames = new int[MOST_THREADS];
        final int[] method = new int[ALL_FRAMES];
        final int[] pc = new int[ALL_FRAMES];
        final int[] stackSize = new int[ALL_FRAMES];
        final int[] heldSize = new int[ALL_FRAMES];
        final int[] variable = new int[ALL_FRAMES * MOST_VARIABLES];
        final int[] stack = new int[ALL_FRAMES * MOST_STACK];
        final int[] held = new int[ALL_FRAMES * MOST_HELD];
        int count;
        // Threads that stand in one queue, or wait for one object, do so by rising stamps.
        private int latestStamp;

        void clear() {
            count = 0;
            latestStamp = 0;
        }

        /** A thread more, without frames. */
        int add() {
            int t = count;
            count++;
            state[t] = READY;
            interrupted[t] = false;
            deadBy[t] = 0;
            time[t] = 0;
            object[t] = 0;
            had[t] = 0;
            outcome[t] = 0;
            joined[t] = NONE;
            wanted[t] = NONE;
            stamp[t] = 0;
            frames[t] = 0;
            return t;
        }

        int addFrame(int t, int m) {
            int f = t * MOST_FRAMES + frames[t];
            frames[t]++;
            method[f] = m;
            pc[f] = 0;
            stackSize[f] = 0;
            heldSize[f] = 0;
            return f;
        }

        /** The latest frame; the thread must have one. */
        int top(int t) {
            return t * MOST_FRAMES + Math.max(frames[t], 1) - 1;
        }

        boolean isReady(int t) {
            return state[t] == READY || state[t] == TO_THROW;
        }

        boolean hasTime(int t) {
            return state[t] == WAITS_TIME || state[t] == SLEEPS;
        }

        boolean isWaiting(int t) {
            return state[t] == WAITS || state[t] == WAITS_TIME;
        }

        void push(int f, int v) {
            if (stackSize[f] < MOST_STACK) {
                stack[f * MOST_STACK + stackSize[f]] = v;
                stackSize[f]++;
            }
        }

        int pop(int f) {
            if (stackSize[f] <= 0) {
                return 0;
            }
            stackSize[f]--;
            return stack[f * MOST_STACK + stackSize[f]];
        }

        /** The value that is so far below the stack's top. */
        int peek(int f, int below) {
            int i = stackSize[f] - 1 - below;
            return i < 0 || i >= MOST_STACK ? 0 : stack[f * MOST_STACK + i];
        }

        /** What an instruction took goes, what it gives comes, and the frame stands behind it. */
        void give(int f, int taken, int v) {
            int left = Math.min(Math.max(0, stackSize[f] - taken), MOST_STACK - 1);
            stack[f * MOST_STACK + left] = v;
            stackSize[f] = left + 1;
            pc[f]++;
        }

        /** A thread whose args went is ready, with what its instruction gives. */
        void goOn(int t, int v) {
            int f = t * MOST_FRAMES + Math.max(frames[t], 1) - 1;
            state[t] = READY;
            time[t] = 0;
            joined[t] = NONE;
            if (stackSize[f] < MOST_STACK) {
                stack[f * MOST_STACK + stackSize[f]] = v;
                stackSize[f]++;
            }
            pc[f]++;
        }

        void addHeld(int f, int o) {
            if (heldSize[f] < MOST_HELD) {
                held[f * MOST_HELD + heldSize[f]] = o;
                heldSize[f]++;
            }
        }

        void lineUp(int t) {
            latestStamp++;
            stamp[t] = latestStamp;
        }

        /** Of those that wait for an object, or stand in its queue, the first behind a stamp; NONE without. */
        int firstBehind(int o, boolean waiting, int behind) {
            int first = NONE;
            for (int t = 0; t < count; t++) {
                boolean isSuch = waiting ? state[t] == WAITS || state[t] == WAITS_TIME : state[t] == BLOCKED;
                if (isSuch && object[t] == o && stamp[t] > behind && (first == NONE || stamp[t] < stamp[first])) {
                    first = t;
                }
            }
            return first;
        }

        int heldBy(int t, int o) {
            int times = 0;
            for (int f = t * MOST_FRAMES; f < t * MOST_FRAMES + frames[t]; f++) {
                for (int i = 0; i < heldSize[f]; i++) {
                    times += held[f * MOST_HELD + i] == o ? 1 : 0;
                }
            }
            return times;
        }
    }

    /** All of a machine's state. */
    private static final class Machine {
        final Program program = new Program();
        final Heap heap = new Heap();
        final Threads threads = new Threads();
        final byte[] out = new byte[MOST_OUT];
        final int[] classState = new int[MOST_CLASSES];
        final int[] classThread = new int[MOST_CLASSES];
        final int[] failures = new int[MOST_FAILURES];
        int status;
        int outCount;
        int failureCount;
        int handles;
        int quantum;
        int hand;
        int steps;
        int arg;
        long clock;
        int pointThread;
        int pointFrame;
        int pointPhase;
        int pointCalled;

        Machine() {
            status = NO_MACHINE;
            pointThread = NONE;
        }

        /** No thread, no object, nothing done yet; the program stays. */
        void clear() {
            heap.clear();
            threads.clear();
            Arrays.fill(classState, CLASS_NEW);
            Arrays.fill(classThread, NONE);
            status = GOES_ON;
            outCount = 0;
            failureCount = 0;
            handles = 0;
            hand = 0;
            steps = 0;
            arg = 0;
            clock = 0;
            endPoint();
        }

        void begin(int itsQuantum) {
            clear();
            quantum = itsQuantum;
            threads.addFrame(threads.add(), program.mainMethod);
        }

        void endPoint() {
            pointThread = NONE;
            pointFrame = 0;
            pointPhase = PHASE_NONE;
            pointCalled = 0;
            heap.listCount = 0;
        }

        /** Whether it goes on, has ended or is stuck; a frozen one stays so. */
        void look() {
            int alive = 0;
            int moving = 0;
            for (int t = 0; t < threads.count; t++) {
                alive += threads.state[t] == DEAD ? 0 : 1;
                moving += threads.isReady(t) || threads.hasTime(t) ? 1 : 0;
            }
            if (status != FROZEN) {
                status = alive == 0 ? ENDED : moving == 0 ? STUCK : GOES_ON;
            }
        }

        /** Numbers all that can be reached, in the order of images. */
        void trace() {
            heap.forget();
            for (int s = 0; s < program.statics; s++) {
                heap.touch(program.staticType[s] == T_INT ? 0 : heap.statics[s]);
            }
            for (int t = 0; t < threads.count; t++) {
                for (int k = threads.frames[t] - 1; k >= 0; k--) {
                    traceFrame(t * MOST_FRAMES + k);
                }
                heap.touch(threads.object[t]);
            }
            for (int i = 0; i < heap.listCount; i++) {
                heap.touch(heap.list[i]);
            }
            for (int i = 0; i < heap.internedCount; i++) {
                heap.touch(heap.interned[i]);
            }
            for (int n = 1; n <= heap.reached && n <= MOST_OBJECTS; n++) {
                traceFields(heap.order[n]);
            }
        }

        private void traceFrame(int f) {
            int x = standing(f);
            int variables = program.variablesAt(x);
            for (int i = 0; i < variables; i++) {
                heap.touch(program.variableTypeAt(x, i) == T_INT ? 0 : threads.variable[f * MOST_VARIABLES + i]);
            }
            for (int i = 0; i < threads.stackSize[f]; i++) {
                heap.touch(program.stackTypeAt(x, i) == T_INT ? 0 : threads.stack[f * MOST_STACK + i]);
            }
            for (int i = 0; i < threads.heldSize[f]; i++) {
                heap.touch(threads.held[f * MOST_HELD + i]);
            }
        }

        private void traceFields(int o) {
            int c = heap.kind[o];
            if (c < 0 || c >= program.classes) {
                return;
            }
            for (int i = 0; i < heap.size[o]; i++) {
                heap.touch(program.fieldType[c * MOST_FIELDS + i] == T_INT ? 0 : heap.cell[o * MOST_BYTES + i]);
            }
        }

        /** The index of the instruction at which a frame stands. */
        int standing(int f) {
            return program.methodFacts[threads.method[f] * Program.METHOD_FACTS + Program.START] + threads.pc[f];
        }

        void putOut(int c) {
            if (outCount < MOST_OUT) {
                out[outCount] = (byte) c;
            }
            outCount = Math.min(outCount + 1, MOST_COUNTED);
        }

        void addFailure(int v) {
            if (failureCount < MOST_FAILURES) {
                failures[failureCount] = v;
                failureCount++;
            }
        }

        int tell(int what) {
            switch (what) {
                case 0:
                    return status;
                case 3:
                    return outCount;
                case 4:
                    return threads.count;
                case 5:
                    return deadThreads();
                case 6:
                    trace();
                    return heap.reached;
                case 7:
                    trace();
                    return heap.registeredReached();
                case 8:
                    return heap.internedCount;
                case 9:
                    return Integer.bitCount(handles);
                case 10:
                    return failureCount;
                case 11:
                    return pointThread;
                case 12:
                    return hand;
                case 13:
                    return program.methods;
                case 14:
                    return program.classes;
                default:
                    return NONE;
            }
        }

        private int deadThreads() {
            int dead = 0;
            for (int t = 0; t < threads.count; t++) {
                dead += threads.state[t] == DEAD ? 1 : 0;
            }
            return dead;
        }

        int tellThread(int t, int what) {
            switch (what) {
                case 0:
                    return threads.state[t];
                case 1:
                    return threads.frames[t];
                case 7:
                    return threads.interrupted[t] ? 1 : 0;
                case 8:
                    return threads.deadBy[t];
                default:
                    break;
            }
            if (threads.frames[t] == 0) {
                return NONE;
            }
            int f = threads.top(t);
            switch (what) {
                case 2:
                    return threads.method[f];
                case 3:
                    return threads.pc[f];
                case 4:
                    return threads.stackSize[f];
                case 5:
                    return program.variablesAt(standing(f));
                case 6:
                    return threads.heldSize[f];
                default:
                    return NONE;
            }
        }

        int tellClass(int c, int what) {
            if (what == 0) {
                return classState[c];
            }
            if (what == 1) {
                return classState[c] == CLASS_BEGUN ? classThread[c] : NONE;
            }
            return what < 2 || what > 4 ? NONE : program.classFact(c, what - 2);
        }

        int tellStatic(int s) {
            if (s < 0 || s >= program.statics) {
                return NONE;
            }
            int v = heap.statics[s];
            return program.staticType[s] == T_INT ? v : v == 0 ? 0 : 1;
        }
    }

    /** Does a machine's steps. */
    private static final class Runner {
        private final int[] digits = new int[MOST_NAME];
        private Machine machine;
        private Program program;
        private Heap heap;
        private Threads threads;
        private boolean isThrown;
        private int thrownValue;

        /** Does a step; false if none can be done. */
        boolean step(Machine itsMachine) {
            machine = itsMachine;
            program = itsMachine.program;
            heap = itsMachine.heap;
            threads = itsMachine.threads;
            isThrown = false;
            wake();
            if (!choose()) {
                machine.look();
                return false;
            }
            int t = machine.hand;
            machine.steps++;
            if (threads.state[t] == TO_THROW) {
                threads.state[t] = READY;
                raise(-5);
            } else {
                perform(t, threads.top(t));
            }
            if (isThrown) {
                unwind(t, thrownValue);
            }
            machine.clock++;
            machine.look();
            return true;
        }

        private void wake() {
            for (int t = 0; t < threads.count; t++) {
                if (threads.hasTime(t) && threads.time[t] <= machine.clock) {
                    if (threads.state[t] == SLEEPS) {
                        threads.goOn(t, 0);
                    } else {
                        comeBack(t, BY_TIME);
                    }
                }
            }
        }

        /** Brings the next thread to hand, if it is due; false if none is ready and none has a time. */
        private boolean choose() {
            if (threads.isReady(machine.hand) && machine.steps < machine.quantum) {
                return true;
            }
            int next = nextReady();
            // Each turn wakes one thread at the least.
            for (int i = 0; i < MOST_THREADS && next == NONE; i++) {
                int sleeper = leastTime();
                if (sleeper == NONE) {
                    return false;
                }
                machine.clock = threads.time[sleeper];
                wake();
                next = nextReady();
            }
            if (next == NONE) {
                return false;
            }
            machine.hand = next;
            machine.steps = 0;
            return true;
        }

        private int nextReady() {
            for (int i = 1; i <= threads.count; i++) {
                int t = (machine.hand + i) % threads.count;
                if (threads.isReady(t)) {
                    return t;
                }
            }
            return NONE;
        }

        private int leastTime() {
            int least = NONE;
            for (int t = 0; t < threads.count; t++) {
                if (threads.hasTime(t) && (least == NONE || threads.time[t] < threads.time[least])) {
                    least = t;
                }
            }
            return least;
        }

        private void raise(int v) {
            isThrown = true;
            thrownValue = v;
        }

        private void perform(int t, int f) {
            int x = machine.standing(f);
            int c = program.wantedAt(x);
            boolean isBegunHere = c != NONE && machine.classState[c] == CLASS_BEGUN && machine.classThread[c] == t;
            if (c != NONE && machine.classState[c] != CLASS_DONE && !isBegunHere) {
                want(t, c);
                return;
            }
            int code = program.code[x];
            if (code == OP_TEXT) {
                pushText(f, program.number[x]);
            } else if (code == OP_NEW || code == OP_ROW) {
                makeObject(f, code, program.number[x]);
            } else if (code < OP_ADD) {
                move(f, code, program.number[x]);
            } else if (code < OP_JOIN) {
                count(f, code);
            } else if (code < OP_JUMP) {
                join(f, code);
            } else if (code == OP_CALL || code == OP_SPAWN) {
                invoke(t, f, code, program.number[x]);
            } else if (code == OP_RETURN || code == OP_GIVE) {
                giveBack(t, f, code);
            } else if (code == OP_BUILT_IN) {
                doBuiltIn(t, f, program.number[x]);
            } else {
                flow(t, f, code, program.number[x]);
            }
        }

        private void want(int t, int c) {
            if (machine.classState[c] == CLASS_FAILED) {
                raise(-13);
            } else if (machine.classState[c] == CLASS_BEGUN) {
                threads.state[t] = WAITS_CLASS;
                threads.wanted[t] = c;
            } else if (threads.frames[t] >= MOST_FRAMES) {
                raise(-8);
            } else {
                machine.classState[c] = CLASS_BEGUN;
                machine.classThread[c] = t;
                threads.addFrame(t, program.methods + c);
            }
        }

        private void endClass(int c, int state) {
            machine.classState[c] = state;
            machine.classThread[c] = NONE;
            for (int t = 0; t < threads.count; t++) {
                if (threads.state[t] == WAITS_CLASS && threads.wanted[t] == c) {
                    threads.state[t] = READY;
                    threads.wanted[t] = NONE;
                }
            }
        }

        /** A slot for an object, made there; 0 if there is no room. */
        private int makeRoom(int kind, int size) {
            int o = heap.freeSlot();
            if (o == 0) {
                machine.trace();
                heap.sweep();
                o = heap.freeSlot();
            }
            if (o == 0) {
                raise(-7);
            } else {
                heap.setUp(o, kind, size);
            }
            return o;
        }

        private void pushText(int f, int k) {
            int o = internedString(k);
            if (o == 0) {
                o = makeRoom(KIND_TEXT, 0);
                if (o == 0) {
                    return;
                }
                for (int i = 0; i < program.stringSize[k]; i++) {
                    heap.addByte(o, program.text[program.stringPlace[k] + i]);
                }
                heap.addInterned(o);
            }
            threads.give(f, 0, o);
        }

        private int internedString(int k) {
            for (int i = 0; i < heap.internedCount; i++) {
                int o = heap.interned[i];
                boolean isAlike = heap.size[o] == program.stringSize[k];
                for (int j = 0; j < heap.size[o] && isAlike; j++) {
                    isAlike = heap.cell[o * MOST_BYTES + j] == program.text[program.stringPlace[k] + j];
                }
                if (isAlike) {
                    return o;
                }
            }
            return 0;
        }

        private void makeObject(int f, int code, int c) {
            int size = code == OP_NEW ? program.classFact(c, 0) : threads.peek(f, 0);
            if (code == OP_ROW && (size < 0 || size > MOST_INTS)) {
                raise(-12);
                return;
            }
            int o = makeRoom(code == OP_NEW ? c : KIND_ROW, size);
            if (o != 0) {
                threads.give(f, code == OP_NEW ? 0 : 1, o);
            }
        }

        private void move(int f, int code, int n) {
            switch (code) {
                case OP_INT:
                    threads.give(f, 0, n);
                    break;
                case OP_NULL:
                    threads.give(f, 0, 0);
                    break;
                case OP_GET:
                    threads.give(f, 0, threads.variable[f * MOST_VARIABLES + n]);
                    break;
                case OP_PUT:
                    threads.variable[f * MOST_VARIABLES + n] = threads.pop(f);
                    threads.pc[f]++;
                    break;
                case OP_STATIC:
                    threads.give(f, 0, heap.statics[n]);
                    break;
                case OP_SETSTATIC:
                    heap.statics[n] = threads.pop(f);
                    threads.pc[f]++;
                    break;
                case OP_FIELD:
                    getCell(f, threads.peek(f, 0), n, 1);
                    break;
                case OP_SETFIELD:
                    setCell(f, threads.peek(f, 1), n, 2);
                    break;
                case OP_ELEMENT:
                    getCell(f, threads.peek(f, 1), threads.peek(f, 0), 2);
                    break;
                default:
                    setCell(f, threads.peek(f, 2), threads.peek(f, 1), 3);
                    break;
            }
        }

        private boolean hasCell(int o, int i) {
            if (o == 0) {
                raise(-1);
            } else if (i < 0 || i >= heap.size[o]) {
                raise(-3);
            }
            return !isThrown;
        }

        private void getCell(int f, int o, int i, int taken) {
            if (hasCell(o, i)) {
                threads.give(f, taken, heap.cell[o * MOST_BYTES + i]);
            }
        }

        private void setCell(int f, int o, int i, int taken) {
            if (hasCell(o, i)) {
                heap.cell[o * MOST_BYTES + i] = threads.peek(f, 0);
                threads.stackSize[f] -= taken;
                threads.pc[f]++;
            }
        }

        private void count(int f, int code) {
            int right = threads.peek(f, 0);
            if (code == OP_NEGATE || code == OP_NOT) {
                threads.give(f, 1, code == OP_NEGATE ? -right : right == 0 ? 1 : 0);
                return;
            }
            int left = threads.peek(f, 1);
            if (right == 0 && (code == OP_DIVIDE || code == OP_REST)) {
                raise(-2);
            } else if (code < OP_NEGATE) {
                threads.give(f, 2, counted(code, left, right));
            } else {
                threads.give(f, 2, isSo(code, left, right) ? 1 : 0);
            }
        }

        private static int counted(int code, int left, int right) {
            switch (code) {
                case OP_ADD:
                    return left + right;
                case OP_SUBTRACT:
                    return left - right;
                case OP_MULTIPLY:
                    return left * right;
                case OP_DIVIDE:
                    return right == 0 ? 0 : left / right;
                default:
                    return right == 0 ? 0 : left % right;
            }
        }

        private static boolean isSo(int code, int left, int right) {
            switch (code) {
                case OP_LESS:
                    return left < right;
                case OP_LESS_SAME:
                    return left <= right;
                case OP_MORE:
                    return left > right;
                case OP_MORE_SAME:
                    return left >= right;
                case OP_SAME_INT:
                case OP_SAME:
                    return left == right;
                default:
                    return left != right;
            }
        }

        private void join(int f, int code) {
            int left = threads.peek(f, 1);
            int right = threads.peek(f, 0);
            boolean isLeftText = code != OP_INT_JOIN;
            boolean isRightText = code != OP_JOIN_INT;
            if (isLeftText && left == 0 || isRightText && right == 0) {
                raise(-1);
                return;
            }
            int size = (isLeftText ? heap.size[left] : digitsOf(left)) + (isRightText ? heap.size[right] : digitsOf(right));
            if (size > MOST_BYTES) {
                raise(-14);
                return;
            }
            int o = makeRoom(KIND_TEXT, 0);
            if (o != 0) {
                addPart(o, isLeftText, left);
                addPart(o, isRightText, right);
                threads.give(f, 2, o);
            }
        }

        private void addPart(int o, boolean isText, int part) {
            int size = isText ? heap.size[part] : digitsOf(part);
            for (int i = 0; i < size; i++) {
                heap.addByte(o, isText ? heap.cell[part * MOST_BYTES + i] : digits[size - 1 - i]);
            }
        }

        /** How many bytes an int has as text; they stand in digits, the last one first. */
        private int digitsOf(int v) {
            long rest = Math.abs((long) v);
            int size = 0;
            do {
                digits[size] = '0' + (int) (rest % 10);
                size++;
                rest /= 10;
            } while (rest > 0 && size < MOST_NAME - 1);
            if (v < 0) {
                digits[size] = '-';
                size++;
            }
            return size;
        }

        private void invoke(int t, int f, int code, int m) {
            boolean isStatic = program.methodFact(m, Program.IS_STATIC) == 1;
            int takes = program.methodFact(m, Program.PARAMETERS) + (isStatic ? 0 : 1);
            if (!isStatic && threads.peek(f, takes - 1) == 0) {
                raise(-1);
            } else if (code == OP_CALL && threads.frames[t] >= MOST_FRAMES) {
                raise(-8);
            } else if (code == OP_SPAWN && threads.count >= MOST_THREADS) {
                raise(-11);
            } else {
                int user = code == OP_CALL ? t : threads.add();
                int made = threads.addFrame(user, m);
                for (int i = 0; i < takes; i++) {
                    threads.variable[made * MOST_VARIABLES + i] = threads.peek(f, takes - 1 - i);
                }
                if (code == OP_CALL) {
                    threads.stackSize[f] -= takes;
                } else {
                    threads.give(f, takes, user);
                }
            }
        }

        private void giveBack(int t, int f, int code) {
            int m = threads.method[f];
            int v = code == OP_GIVE ? threads.peek(f, 0) : 0;
            endFrame(t);
            if (threads.frames[t] == 0) {
                die(t, 0);
                return;
            }
            int below = threads.top(t);
            if (m >= program.methods) {
                endClass(m - program.methods, CLASS_DONE);
            } else if (program.code[machine.standing(below)] == OP_CALL) {
                if (code == OP_GIVE) {
                    threads.push(below, v);
                }
                threads.pc[below]++;
            }
        }

        private void endFrame(int t) {
            releaseDownTo(t, 0);
            threads.frames[t]--;
        }

        /** The latest frame keeps its first monitors alone; the others are released once each, the latest first. */
        private void releaseDownTo(int t, int kept) {
            int f = threads.top(t);
            for (int i = threads.heldSize[f]; i > kept; i--) {
                threads.heldSize[f]--;
                int o = threads.held[f * MOST_HELD + threads.heldSize[f]];
                heap.often[o]--;
                if (heap.often[o] <= 0) {
                    handOver(o);
                }
            }
        }

        /** The monitor is free, and goes to the first of its queue. */
        private void handOver(int o) {
            heap.owner[o] = NONE;
            heap.often[o] = 0;
            int t = threads.firstBehind(o, false, 0);
            if (t == NONE) {
                return;
            }
            heap.owner[o] = t;
            int f = threads.top(t);
            int ended = threads.outcome[t];
            if (ended == 0) {
                heap.often[o] = 1;
                threads.addHeld(f, o);
                threads.pc[f]++;
                threads.state[t] = READY;
            } else {
                heap.often[o] = threads.had[t];
                if (ended == BY_INTERRUPT) {
                    threads.state[t] = TO_THROW;
                } else {
                    threads.goOn(t, ended == BY_NOTIFY ? 1 : 0);
                }
            }
            threads.object[t] = 0;
            threads.had[t] = 0;
            threads.outcome[t] = 0;
        }

        /** One that waits comes to the queue of its object, and has it at once if that is free. */
        private void comeBack(int t, int outcome) {
            int o = threads.object[t];
            threads.state[t] = BLOCKED;
            threads.outcome[t] = outcome;
            threads.time[t] = 0;
            threads.lineUp(t);
            if (heap.owner[o] == NONE) {
                handOver(o);
            }
        }

        private void die(int t, int v) {
            threads.state[t] = DEAD;
            threads.deadBy[t] = v;
            threads.interrupted[t] = false;
            for (int u = 0; u < threads.count; u++) {
                if (threads.state[u] == JOINS && threads.joined[u] == t) {
                    threads.goOn(u, 0);
                }
            }
        }

        /** Brings what is thrown to its try, or ends frames till there is one. */
        private void unwind(int t, int value) {
            int v = value;
            for (int i = 0; i <= MOST_FRAMES && threads.frames[t] > 0; i++) {
                int f = threads.top(t);
                int x = machine.standing(f);
                int m = threads.method[f];
                if (program.handler[x] != NONE) {
                    int to = program.handler[x];
                    releaseDownTo(t, program.syncsAt(program.at(m, to)));
                    threads.stackSize[f] = 0;
                    threads.push(f, v);
                    threads.pc[f] = to;
                    return;
                }
                endFrame(t);
                if (m >= program.methods) {
                    endClass(m - program.methods, CLASS_FAILED);
                    v = -13;
                } else if (threads.frames[t] > 0 && program.isBuiltIn(machine.standing(threads.top(t)), B_CHECKPOINT)) {
                    machine.addFailure(v);
                    return;
                }
            }
            die(t, v);
        }

        private void flow(int t, int f, int code, int n) {
            switch (code) {
                case OP_JUMP:
                    threads.pc[f] = n;
                    break;
                case OP_ZERO:
                    threads.pc[f] = threads.pop(f) == 0 ? n : threads.pc[f] + 1;
                    break;
                case OP_THROW:
                    raise(threads.peek(f, 0));
                    break;
                case OP_ENTER:
                    enter(t, f, threads.peek(f, 0));
                    break;
                case OP_LEAVE:
                    threads.pc[f]++;
                    releaseDownTo(t, threads.heldSize[f] - 1);
                    break;
                default:
                    threads.pop(f);
                    threads.pc[f]++;
                    break;
            }
        }

        private void enter(int t, int f, int o) {
            if (o == 0) {
                raise(-1);
                return;
            }
            threads.pop(f);
            if (heap.owner[o] == NONE || heap.owner[o] == t) {
                heap.owner[o] = t;
                heap.often[o]++;
                threads.addHeld(f, o);
                threads.pc[f]++;
            } else {
                threads.state[t] = BLOCKED;
                threads.object[t] = o;
                threads.lineUp(t);
            }
        }

        private void doBuiltIn(int t, int f, int b) {
            switch (b) {
                case B_PRINT_INT:
                case B_PRINT_TEXT:
                    print(f, b == B_PRINT_TEXT);
                    break;
                case B_WAIT:
                case B_WAIT_TIME:
                    waitFor(t, f, b == B_WAIT ? 1 : 2);
                    break;
                case B_NOTIFY:
                case B_ALL:
                    notifyThem(t, f, b == B_ALL);
                    break;
                case B_SLEEP:
                    sleep(t, f, threads.peek(f, 0));
                    break;
                case B_INTERRUPT:
                    threads.give(f, 1, interrupt(threads.peek(f, 0)));
                    break;
                case B_INTERRUPTED:
                    threads.give(f, 0, threads.interrupted[t] ? 1 : 0);
                    threads.interrupted[t] = false;
                    break;
                case B_JOIN:
                    joinThread(t, f, threads.peek(f, 0));
                    break;
                case B_REGISTER:
                    register(f, threads.peek(f, 0));
                    break;
                case B_OPEN:
                case B_CLOSE:
                    useHandle(f, b);
                    break;
                case B_CHECKPOINT:
                    checkpoint(t, f);
                    break;
                case B_HASH:
                case B_INTERN:
                case B_LEN_TEXT:
                case B_LEN_ROW:
                    askObject(f, b, threads.peek(f, 0));
                    break;
                default:
                    askMachine(t, f, b);
                    break;
            }
        }

        private void askMachine(int t, int f, int b) {
            int k = threads.peek(f, 0);
            if (b == B_TIME) {
                threads.give(f, 0, (int) machine.clock);
            } else if (b == B_FAILURES) {
                threads.give(f, 0, machine.failureCount);
            } else if (b == B_ARG) {
                threads.give(f, 0, machine.arg);
            } else if (b == B_ME) {
                threads.give(f, 0, t);
            } else if (k < 0 || k >= machine.failureCount) {
                raise(-3);
            } else {
                threads.give(f, 1, machine.failures[k]);
            }
        }

        private void askObject(int f, int b, int o) {
            if (o == 0) {
                raise(-1);
            } else if (b == B_HASH) {
                threads.give(f, 1, hashOf(o));
            } else if (b == B_INTERN) {
                threads.give(f, 1, internedOf(o));
            } else {
                threads.give(f, 1, heap.size[o]);
            }
        }

        private int hashOf(int o) {
            if (heap.hash[o] == 0) {
                heap.seed = heap.seed * 1103515245 + 12345;
                heap.hash[o] = heap.seed >>> 1 | 1;
            }
            return heap.hash[o];
        }

        private int internedOf(int o) {
            for (int i = 0; i < heap.internedCount; i++) {
                if (heap.isAlike(heap.interned[i], o)) {
                    return heap.interned[i];
                }
            }
            heap.addInterned(o);
            return o;
        }

        private void print(int f, boolean isText) {
            int v = threads.peek(f, 0);
            int size = isText ? heap.size[v] : digitsOf(v);
            if (isText && v == 0) {
                putNull();
                size = 0;
            }
            for (int i = 0; i < size; i++) {
                machine.putOut(isText ? heap.cell[v * MOST_BYTES + i] : digits[size - 1 - i]);
            }
            machine.putOut('\n');
            threads.give(f, 1, 0);
        }

        private void putNull() {
            machine.putOut('n');
            machine.putOut('u');
            machine.putOut('l');
            machine.putOut('l');
        }

        private boolean isInterrupted(int t) {
            boolean was = threads.interrupted[t];
            threads.interrupted[t] = false;
            if (was) {
                raise(-5);
            }
            return was;
        }

        private void waitFor(int t, int f, int taken) {
            int o = threads.peek(f, taken - 1);
            int length = taken == 2 ? threads.peek(f, 0) : 0;
            if (o == 0) {
                raise(-1);
            } else if (heap.owner[o] != t) {
                raise(-4);
            } else if (length < 0) {
                raise(-12);
            } else if (!isInterrupted(t)) {
                threads.stackSize[f] -= taken;
                threads.state[t] = length == 0 ? WAITS : WAITS_TIME;
                threads.time[t] = length == 0 ? 0 : machine.clock + length;
                threads.object[t] = o;
                threads.had[t] = heap.often[o];
                threads.lineUp(t);
                handOver(o);
            }
        }

        private void notifyThem(int t, int f, boolean isAll) {
            int o = threads.peek(f, 0);
            if (o == 0) {
                raise(-1);
            } else if (heap.owner[o] != t) {
                raise(-4);
            } else {
                int told = 0;
                int first = threads.firstBehind(o, true, 0);
                for (int i = 0; i < MOST_THREADS && first != NONE && (isAll || told == 0); i++) {
                    comeBack(first, BY_NOTIFY);
                    told++;
                    first = threads.firstBehind(o, true, 0);
                }
                threads.give(f, 1, told);
            }
        }

        private void sleep(int t, int f, int length) {
            if (length < 0) {
                raise(-12);
            } else if (!isInterrupted(t)) {
                if (length == 0) {
                    threads.give(f, 1, 0);
                } else {
                    threads.pop(f);
                    threads.state[t] = SLEEPS;
                    threads.time[t] = machine.clock + length;
                }
            }
        }

        private void joinThread(int t, int f, int n) {
            if (n < 0 || n >= threads.count) {
                raise(-11);
            } else if (!isInterrupted(t)) {
                if (threads.state[n] == DEAD) {
                    threads.give(f, 1, 0);
                } else {
                    threads.pop(f);
                    threads.state[t] = JOINS;
                    threads.joined[t] = n;
                }
            }
        }

        private int interrupt(int n) {
            if (n < 0 || n >= threads.count || threads.state[n] == DEAD) {
                return 0;
            }
            if (threads.isWaiting(n)) {
                comeBack(n, BY_INTERRUPT);
            } else if (threads.state[n] == SLEEPS || threads.state[n] == JOINS) {
                threads.state[n] = TO_THROW;
                threads.time[n] = 0;
                threads.joined[n] = NONE;
            } else {
                threads.interrupted[n] = true;
            }
            return 1;
        }

        private void register(int f, int o) {
            if (o == 0) {
                raise(-1);
                return;
            }
            if (heap.isRegistered(o)) {
                threads.give(f, 1, 0);
                return;
            }
            if (heap.registeredCount >= MOST_RESOURCES) {
                machine.trace();
                heap.sweep();
            }
            if (heap.registeredCount >= MOST_RESOURCES) {
                raise(-7);
                return;
            }
            heap.registered[heap.registeredCount] = o;
            heap.registeredCount++;
            threads.give(f, 1, 1);
        }

        private void useHandle(int f, int b) {
            if (b == B_CLOSE) {
                int h = threads.peek(f, 0);
                boolean isOpen = h >= 0 && h < MOST_HANDLES && (machine.handles >> h & 1) == 1;
                machine.handles &= isOpen ? ~(1 << h) : ~0;
                threads.give(f, 1, isOpen ? 1 : 0);
                return;
            }
            int h = Integer.numberOfTrailingZeros(~machine.handles);
            if (h >= MOST_HANDLES) {
                raise(-11);
            } else {
                machine.handles |= 1 << h;
                threads.give(f, 0, h);
            }
        }

        private void checkpoint(int t, int f) {
            int frame = threads.frames[t] - 1;
            if (machine.pointThread == NONE) {
                machine.trace();
                heap.sweep();
                machine.pointThread = t;
                machine.pointFrame = frame;
                machine.pointPhase = PHASE_FREEZE;
                machine.pointCalled = 0;
                machine.failureCount = 0;
                heap.listCount = heap.registeredCount;
                System.arraycopy(heap.registered, 0, heap.list, 0, heap.registeredCount);
            } else if (machine.pointThread != t || machine.pointFrame != frame) {
                raise(-9);
            } else if (machine.pointCalled < heap.listCount) {
                callResource(t);
            } else if (machine.pointPhase == PHASE_FREEZE) {
                endFreezes();
            } else {
                boolean isRefused = machine.pointPhase == PHASE_REFUSED;
                machine.endPoint();
                if (isRefused || machine.failureCount > 0) {
                    raise(isRefused ? -9 : -10);
                } else {
                    threads.give(f, 0, 1);
                }
            }
        }

        private void callResource(int t) {
            boolean isFreeze = machine.pointPhase == PHASE_FREEZE;
            int o = heap.list[isFreeze ? heap.listCount - 1 - machine.pointCalled : machine.pointCalled];
            machine.pointCalled++;
            if (threads.frames[t] >= MOST_FRAMES) {
                machine.addFailure(-8);
                return;
            }
            int f = threads.addFrame(t, program.classFact(heap.kind[o], isFreeze ? Program.FREEZE : Program.THAW));
            threads.variable[f * MOST_VARIABLES] = o;
        }

        private void endFreezes() {
            for (int h = 0; h < MOST_HANDLES; h++) {
                if ((machine.handles >> h & 1) == 1) {
                    machine.addFailure(100 + h);
                }
            }
            machine.pointCalled = 0;
            machine.pointPhase = machine.failureCount == 0 ? PHASE_THAW : PHASE_REFUSED;
            if (machine.failureCount == 0) {
                machine.status = FROZEN;
            }
        }
    }

    /** Tells a machine's state as an image, or holds it against one. */
    private static final class Writer {
        private byte[] row;
        private int length;
        private int at;
        private boolean isHeldAgainst;
        private int otherPlace;
        private Machine machine;
        private Program program;
        private Heap heap;
        private Threads threads;

        Writer() {
            row = new byte[0];
        }

        /**
         * Writes the image: how many bytes it has; or, if it is held against one with a right CRC,
         * the first byte there that would be another one, NONE without.
         */
        int tellAll(Machine itsMachine, byte[] itsRow, int itsLength, boolean isToHold) {
            machine = itsMachine;
            program = itsMachine.program;
            heap = itsMachine.heap;
            threads = itsMachine.threads;
            row = itsRow;
            length = itsLength;
            isHeldAgainst = isToHold;
            otherPlace = NONE;
            at = 0;
            machine.trace();
            add(1, 70);
            add(1, 82);
            add(1, 1);
            at += 4;
            for (int section = 1; section <= SECTIONS; section++) {
                add(1, section);
                int head = at;
                at += 4;
                contents(section);
                set(head, 4, at - head - 4);
            }
            set(3, 4, at + CRC_SIZE);
            if (isHeldAgainst) {
                return otherPlace;
            }
            add(4, crcOf(row, Math.min(at, length)));
            return at;
        }

        private void contents(int section) {
            switch (section) {
                case 1:
                    for (int i = 0; i < program.length && i < MOST_TEXT; i++) {
                        add(1, program.text[i]);
                    }
                    break;
                case 2:
                    add(4, heap.seed);
                    add(1, machine.quantum);
                    add(1, machine.hand);
                    add(1, machine.steps);
                    break;
                case 3:
                    classes();
                    break;
                case 4:
                    objects();
                    break;
                case 5:
                    numbers(heap.interned, heap.internedCount);
                    break;
                case 6:
                    monitors();
                    break;
                case 7:
                    add(1, threads.count);
                    for (int t = 0; t < threads.count; t++) {
                        oneThread(t);
                    }
                    break;
                default:
                    checkpoint();
                    break;
            }
        }

        private void classes() {
            for (int c = 0; c < program.classes; c++) {
                add(1, machine.classState[c]);
                if (machine.classState[c] == CLASS_BEGUN) {
                    add(1, machine.classThread[c]);
                }
            }
            for (int s = 0; s < program.statics; s++) {
                value(program.staticType[s], heap.statics[s]);
            }
        }

        private void objects() {
            add(2, heap.reached);
            for (int n = 1; n <= heap.reached; n++) {
                int o = heap.order[n];
                int kind = heap.kind[o];
                add(1, kind);
                add(4, heap.hash[o]);
                if (kind == KIND_TEXT || kind == KIND_ROW) {
                    add(1, heap.size[o]);
                }
                for (int i = 0; i < heap.size[o]; i++) {
                    int v = heap.cell[o * MOST_BYTES + i];
                    if (kind == KIND_TEXT) {
                        add(1, v);
                    } else {
                        value(kind == KIND_ROW ? T_INT : program.fieldType[kind * MOST_FIELDS + i], v);
                    }
                }
            }
        }

        private void monitors() {
            int found = 0;
            for (int n = 1; n <= heap.reached; n++) {
                found += isMonitor(heap.order[n]) ? 1 : 0;
            }
            add(1, found);
            for (int n = 1; n <= heap.reached; n++) {
                int o = heap.order[n];
                if (isMonitor(o)) {
                    add(1, n);
                    add(1, heap.owner[o]);
                    add(2, heap.often[o]);
                    line(o, false);
                    line(o, true);
                }
            }
        }

        private boolean isMonitor(int o) {
            return heap.owner[o] != NONE || threads.firstBehind(o, true, 0) != NONE;
        }

        private void line(int o, boolean waiting) {
            int place = at;
            int found = 0;
            at++;
            int t = threads.firstBehind(o, waiting, 0);
            for (int i = 0; i < MOST_THREADS && t != NONE; i++) {
                add(1, t);
                found++;
                t = threads.firstBehind(o, waiting, threads.stamp[t]);
            }
            set(place, 1, found);
        }

        private void oneThread(int t) {
            add(1, threads.state[t]);
            add(1, threads.interrupted[t] ? 1 : 0);
            add(4, threads.deadBy[t]);
            add(4, threads.hasTime(t) ? (int) (threads.time[t] - machine.clock) : 0);
            add(1, heap.number[threads.object[t]]);
            add(2, threads.had[t]);
            add(1, threads.outcome[t]);
            add(1, threads.joined[t]);
            add(1, threads.wanted[t]);
            add(1, threads.frames[t]);
            for (int k = threads.frames[t] - 1; k >= 0; k--) {
                frame(t * MOST_FRAMES + k);
            }
        }

        private void frame(int f) {
            int x = machine.standing(f);
            add(1, threads.method[f]);
            add(2, threads.pc[f]);
            int variables = program.variablesAt(x);
            for (int i = 0; i < variables; i++) {
                value(program.variableTypeAt(x, i), threads.variable[f * MOST_VARIABLES + i]);
            }
            for (int i = 0; i < threads.stackSize[f]; i++) {
                value(program.stackTypeAt(x, i), threads.stack[f * MOST_STACK + i]);
            }
            for (int i = 0; i < threads.heldSize[f]; i++) {
                add(1, heap.number[threads.held[f * MOST_HELD + i]]);
            }
        }

        private void checkpoint() {
            add(1, machine.pointThread);
            add(1, machine.pointFrame);
            add(1, machine.pointPhase);
            add(1, machine.pointCalled);
            numbers(heap.list, heap.listCount);
            add(1, heap.registeredReached());
            for (int i = 0; i < heap.registeredCount; i++) {
                int n = heap.number[heap.registered[i]];
                if (n != 0) {
                    add(1, n);
                }
            }
            add(1, machine.failureCount);
            for (int i = 0; i < machine.failureCount; i++) {
                add(4, machine.failures[i]);
            }
        }

        private void numbers(int[] list, int count) {
            add(1, count);
            for (int i = 0; i < count; i++) {
                add(1, heap.number[list[i]]);
            }
        }

        private void value(int type, int v) {
            add(4, type == T_INT ? v : heap.number[v]);
        }

        private void add(int bytes, int v) {
            set(at, bytes, v);
            at += bytes;
        }

        // What is told last, a length, stands ahead of what it tells: so the least place counts, not the first one found.
        private void set(int place, int bytes, int v) {
            for (int i = 0; i < bytes; i++) {
                int to = place + i;
                byte told = (byte) (v >> 8 * (bytes - 1 - i));
                boolean isThere = to >= 0 && to < length && to < row.length;
                if (!isHeldAgainst && isThere) {
                    row[to] = told;
                } else if (isHeldAgainst && (!isThere || row[to] != told)) {
                    otherPlace = otherPlace == NONE ? to : Math.min(otherPlace, to);
                }
            }
        }
    }

    /** Reads an image into a machine, as far as its numbers can be; what it tells of monitors is kept for the rules. */
    private static final class Reader {
        static final int LINE = MOST_THREADS;

        final int[] monitorObject = new int[MOST_OBJECTS];
        final int[] monitorOwner = new int[MOST_OBJECTS];
        final int[] monitorOften = new int[MOST_OBJECTS];
        final int[] queueSize = new int[MOST_OBJECTS];
        final int[] queue = new int[MOST_OBJECTS * LINE];
        final int[] waiterSize = new int[MOST_OBJECTS];
        final int[] waiter = new int[MOST_OBJECTS * LINE];
        int monitors;
        int objects;
        private final int[] start = new int[SECTIONS + 1];
        private final int[] stop = new int[SECTIONS + 1];
        private byte[] tape;
        private int at;
        private int end;
        private int badPlace;
        private Machine machine;
        private Program program;
        private Heap heap;
        private Threads threads;

        Reader() {
            tape = new byte[0];
        }

        int stopOf(int section) {
            return stop[section];
        }

        /** The place of the first byte of head, length or sections that is not as told; NONE if all are. */
        int layoutFault(byte[] bytes, int length) {
            tape = bytes;
            for (int i = 0; i < FIRST_SECTION && i < length; i++) {
                int due = i == 0 ? 70 : i == 1 ? 82 : i == 2 ? 1 : length >>> 8 * (FIRST_SECTION - 1 - i) & 255;
                if ((bytes[i] & 255) != due) {
                    return Math.min(i, 3);
                }
            }
            if (length < FIRST_SECTION + CRC_SIZE) {
                return length;
            }
            int last = length - CRC_SIZE;
            int place = FIRST_SECTION;
            for (int section = 1; section <= SECTIONS; section++) {
                if (place + SECTION_HEAD > last || bytes[place] != section) {
                    return place;
                }
                int size = fourAt(bytes, place + 1);
                if (size < 0 || size > last - place - SECTION_HEAD) {
                    return place + 1;
                }
                start[section] = place + SECTION_HEAD;
                stop[section] = place + SECTION_HEAD + size;
                place = stop[section];
            }
            return place < last ? place : NONE;
        }

        /** The place of the first number that can't be; NONE without. */
        int readInto(Machine itsMachine) {
            machine = itsMachine;
            program = itsMachine.program;
            heap = itsMachine.heap;
            threads = itsMachine.threads;
            badPlace = NONE;
            monitors = 0;
            machine.clear();
            boolean isTold = stop[4] - start[4] >= 2;
            int told = isTold ? (tape[start[4]] & 255) << 8 | tape[start[4] + 1] & 255 : 0;
            objects = Math.min(told, MOST_OBJECTS);
            for (int section = 2; section <= SECTIONS && badPlace == NONE; section++) {
                at = start[section];
                end = stop[section];
                contents(section);
                if (badPlace == NONE && at < end) {
                    badPlace = at;
                }
            }
            return badPlace;
        }

        private void contents(int section) {
            switch (section) {
                case 2:
                    heap.seed = (int) number(4, 0, MOST_FOUR);
                    machine.quantum = (int) number(1, 1, MOST_QUANTUM);
                    machine.hand = (int) number(1, 0, MOST_THREADS - 1);
                    machine.steps = (int) number(1, 0, machine.quantum);
                    break;
                case 3:
                    classes();
                    break;
                case 4:
                    two(MOST_OBJECTS);
                    for (int o = 1; o <= objects && badPlace == NONE; o++) {
                        object(o);
                    }
                    break;
                case 5:
                    heap.internedCount = numbers(heap.interned, MOST_OBJECTS);
                    break;
                case 6:
                    monitors = one(MOST_OBJECTS);
                    for (int i = 0; i < monitors && badPlace == NONE; i++) {
                        monitor(i);
                    }
                    break;
                case 7:
                    readThreads((int) number(1, 1, MOST_THREADS));
                    break;
                default:
                    checkpoint();
                    break;
            }
        }

        private void readThreads(int count) {
            for (int t = 0; t < count && badPlace == NONE; t++) {
                oneThread(threads.add());
            }
        }

        private void classes() {
            for (int c = 0; c < program.classes; c++) {
                machine.classState[c] = one(CLASS_FAILED);
                machine.classThread[c] = machine.classState[c] == CLASS_BEGUN ? one(MOST_THREADS - 1) : NONE;
            }
            for (int s = 0; s < program.statics; s++) {
                heap.statics[s] = value(program.staticType[s]);
            }
        }

        private void object(int o) {
            int kind = kindOfObject();
            int hash = (int) number(4, 0, MOST_FOUR);
            boolean isText = kind == KIND_TEXT;
            boolean isRow = kind == KIND_ROW;
            int size = isText ? one(MOST_BYTES) : isRow ? one(MOST_INTS) : program.classFact(kind, 0);
            heap.setUp(o, kind, size);
            heap.hash[o] = hash;
            for (int i = 0; i < size; i++) {
                int v = isText ? (int) number(1, ' ', '~') : value(isRow ? T_INT : program.fieldType[kind * MOST_FIELDS + i]);
                heap.cell[o * MOST_BYTES + i] = v;
            }
        }

        private int kindOfObject() {
            boolean isTold = badPlace == NONE && at < end && (tape[at] & 255) >= KIND_TEXT;
            return isTold ? one(KIND_ROW) : one(program.classes - 1);
        }

        private void monitor(int i) {
            monitorObject[i] = (int) number(1, 1, objects);
            monitorOwner[i] = oneOrNone(MOST_THREADS - 1);
            monitorOften[i] = two(0xFFFF);
            queueSize[i] = one(LINE);
            for (int k = 0; k < queueSize[i]; k++) {
                queue[i * LINE + k] = one(MOST_THREADS - 1);
            }
            waiterSize[i] = one(LINE);
            for (int k = 0; k < waiterSize[i]; k++) {
                waiter[i * LINE + k] = one(MOST_THREADS - 1);
            }
        }

        private void oneThread(int t) {
            threads.state[t] = one(TO_THROW);
            threads.interrupted[t] = one(1) == 1;
            threads.deadBy[t] = (int) number(4, 0, MOST_FOUR);
            threads.time[t] = number(4, 0, MOST_INT);
            threads.object[t] = one(objects);
            threads.had[t] = two(0xFFFF);
            threads.outcome[t] = one(BY_INTERRUPT);
            threads.joined[t] = oneOrNone(MOST_THREADS - 1);
            threads.wanted[t] = oneOrNone(program.classes - 1);
            threads.frames[t] = one(MOST_FRAMES);
            for (int k = threads.frames[t] - 1; k >= 0 && badPlace == NONE; k--) {
                frame(t, k);
            }
        }

        private void frame(int t, int k) {
            int f = t * MOST_FRAMES + k;
            threads.method[f] = one(program.allMethods() - 1);
            threads.pc[f] = two(program.methodFact(threads.method[f], Program.LENGTH) - 1);
            int x = machine.standing(f);
            int variables = program.variablesAt(x);
            for (int i = 0; i < variables; i++) {
                threads.variable[f * MOST_VARIABLES + i] = value(program.variableTypeAt(x, i));
            }
            int size = program.stackAt(x) - (hasTaken(t, k, x) ? program.takesAt(x) : 0);
            threads.stackSize[f] = size;
            for (int i = 0; i < size; i++) {
                threads.stack[f * MOST_STACK + i] = value(program.stackTypeAt(x, i));
            }
            threads.heldSize[f] = program.syncsAt(x);
            for (int i = 0; i < threads.heldSize[f]; i++) {
                threads.held[f * MOST_HELD + i] = (int) number(1, 1, objects);
            }
        }

        /** Whether the instruction's args went from the stack. */
        private boolean hasTaken(int t, int k, int x) {
            int code = program.code[x];
            int state = threads.state[t];
            if (k < threads.frames[t] - 1) {
                return code == OP_CALL && threads.method[t * MOST_FRAMES + k + 1] < program.methods;
            }
            boolean isAway = state >= BLOCKED && state <= JOINS || state == TO_THROW;
            return code == OP_ENTER && state == BLOCKED || code == OP_BUILT_IN && isAway;
        }

        private void checkpoint() {
            machine.pointThread = oneOrNone(MOST_THREADS - 1);
            machine.pointFrame = one(MOST_FRAMES - 1);
            machine.pointPhase = one(PHASE_THAW);
            machine.pointCalled = one(255);
            heap.listCount = numbers(heap.list, MOST_RESOURCES);
            heap.registeredCount = numbers(heap.registered, MOST_RESOURCES);
            machine.failureCount = one(MOST_FAILURES);
            for (int i = 0; i < machine.failureCount; i++) {
                machine.failures[i] = (int) number(4, 0, MOST_FOUR);
            }
        }

        private int numbers(int[] list, int most) {
            int count = one(most);
            for (int i = 0; i < count; i++) {
                list[i] = (int) number(1, 1, objects);
            }
            return count;
        }

        private int value(int type) {
            return (int) number(4, 0, type == T_INT ? MOST_FOUR : objects);
        }

        private int one(int most) {
            return (int) number(1, 0, most);
        }

        private int two(int most) {
            return (int) number(2, 0, most);
        }

        private int oneOrNone(int most) {
            boolean isNone = badPlace == NONE && at < end && (tape[at] & 255) == BYTE_NONE;
            at += isNone ? 1 : 0;
            return isNone ? NONE : (int) number(1, 0, most);
        }

        // Behind the first number that can't be each is the least one, so that what is read stays within its rows.
        private long number(int bytes, long least, long most) {
            if (badPlace != NONE) {
                return least;
            }
            if (at + bytes > end) {
                badPlace = end;
                return least;
            }
            long v = 0;
            for (int i = 0; i < bytes; i++) {
                v = v << 8 | tape[at + i] & 255;
            }
            if (v < least || v > most) {
                badPlace = at;
                return least;
            }
            at += bytes;
            return v;
        }

        /** What the rules have found right becomes a state that goes on. */
        void settle(long clock, int arg) {
            machine.clock = clock;
            machine.arg = arg;
            for (int i = 0; i < monitors; i++) {
                heap.owner[monitorObject[i]] = monitorOwner[i];
                heap.often[monitorObject[i]] = monitorOften[i];
                for (int k = 0; k < queueSize[i]; k++) {
                    threads.lineUp(queue[i * LINE + k]);
                }
                for (int k = 0; k < waiterSize[i]; k++) {
                    threads.lineUp(waiter[i * LINE + k]);
                }
            }
            for (int t = 0; t < threads.count; t++) {
                threads.time[t] = threads.hasTime(t) ? clock + threads.time[t] : 0;
            }
            machine.look();
        }
    }

    /** What a state that was read must be: seven rules, of which the first broken one is told. */
    private static final class Rules {
        static final int RULES = 7;

        private Reader reader;
        private Machine machine;
        private Program program;
        private Heap heap;
        private Threads threads;

        /** The number of the first rule that is broken, NONE without. */
        int firstBroken(Machine itsMachine, Reader itsReader) {
            reader = itsReader;
            machine = itsMachine;
            program = itsMachine.program;
            heap = itsMachine.heap;
            threads = itsMachine.threads;
            for (int rule = 1; rule <= RULES; rule++) {
                if (!holds(rule)) {
                    return rule;
                }
            }
            return NONE;
        }

        private boolean holds(int rule) {
            switch (rule) {
                case 1:
                    return staticsFit() && fieldsFit() && framesFit() && listsFit();
                case 2:
                    return framesStand();
                case 3:
                    return statesStand();
                case 4:
                    return linesHold() && monitorsHold() && heldHold();
                case 5:
                    return classesHold();
                case 6:
                    return checkpointHolds() && listsHold();
                default:
                    return handHolds() && hashesHold() && threadsHold();
            }
        }

        private boolean isOf(int type, int o) {
            if (type == T_INT || o == 0) {
                return true;
            }
            int kind = heap.kind[o];
            return type == T_TEXT ? kind == KIND_TEXT : type == T_ROW ? kind == KIND_ROW : type >= T_CLASS && kind == type - T_CLASS;
        }

        private boolean staticsFit() {
            for (int s = 0; s < program.statics; s++) {
                if (!isOf(program.staticType[s], heap.statics[s])) {
                    return false;
                }
            }
            return true;
        }

        private boolean fieldsFit() {
            for (int o = 1; o <= reader.objects; o++) {
                int c = heap.kind[o];
                for (int i = 0; i < heap.size[o] && c < MOST_CLASSES; i++) {
                    if (!isOf(program.fieldType[c * MOST_FIELDS + i], heap.cell[o * MOST_BYTES + i])) {
                        return false;
                    }
                }
            }
            return true;
        }

        private boolean framesFit() {
            for (int t = 0; t < threads.count; t++) {
                for (int k = 0; k < threads.frames[t]; k++) {
                    if (!frameFits(t * MOST_FRAMES + k)) {
                        return false;
                    }
                }
            }
            return true;
        }

        private boolean frameFits(int f) {
            int x = machine.standing(f);
            int variables = program.variablesAt(x);
            for (int i = 0; i < variables; i++) {
                if (!isOf(program.variableTypeAt(x, i), threads.variable[f * MOST_VARIABLES + i])) {
                    return false;
                }
            }
            for (int i = 0; i < threads.stackSize[f]; i++) {
                if (!isOf(program.stackTypeAt(x, i), threads.stack[f * MOST_STACK + i])) {
                    return false;
                }
            }
            return true;
        }

        private boolean listsFit() {
            for (int i = 0; i < heap.internedCount; i++) {
                if (heap.kind[heap.interned[i]] != KIND_TEXT) {
                    return false;
                }
            }
            return areResources(heap.list, heap.listCount) && areResources(heap.registered, heap.registeredCount);
        }

        private boolean areResources(int[] list, int count) {
            for (int i = 0; i < count; i++) {
                int kind = heap.kind[list[i]];
                if (kind >= MOST_CLASSES || program.classFact(kind, Program.IS_RES) == 0) {
                    return false;
                }
            }
            return true;
        }

        private boolean framesStand() {
            for (int t = 0; t < threads.count; t++) {
                boolean isDead = threads.state[t] == DEAD;
                if (isDead != (threads.frames[t] == 0)) {
                    return false;
                }
                if (!isDead && threads.method[t * MOST_FRAMES] >= program.methods) {
                    return false;
                }
                for (int k = 1; k < threads.frames[t]; k++) {
                    if (!standsAbove(t, t * MOST_FRAMES + k)) {
                        return false;
                    }
                }
            }
            return true;
        }

        private boolean standsAbove(int t, int f) {
            int x = machine.standing(f - 1);
            int m = threads.method[f];
            if (m >= program.methods) {
                return program.wantedAt(x) == m - program.methods;
            }
            boolean isCalled = program.code[x] == OP_CALL && program.number[x] == m;
            return isCalled || program.isBuiltIn(x, B_CHECKPOINT) && isCalledBack(t, f, m);
        }

        private boolean isCalledBack(int t, int f, int m) {
            boolean isFreeze = machine.pointPhase == PHASE_FREEZE;
            int latest = isFreeze ? heap.listCount - machine.pointCalled : machine.pointCalled - 1;
            if (machine.pointThread != t || machine.pointPhase == PHASE_NONE || latest < 0 || latest >= heap.listCount) {
                return false;
            }
            int o = heap.list[latest];
            int due = program.classFact(heap.kind[o], isFreeze ? Program.FREEZE : Program.THAW);
            return m == due && threads.variable[f * MOST_VARIABLES] == o;
        }

        private boolean statesStand() {
            for (int t = 0; t < threads.count; t++) {
                if (threads.state[t] != DEAD && !stateStands(t, machine.standing(threads.top(t)))) {
                    return false;
                }
            }
            return true;
        }

        private boolean stateStands(int t, int x) {
            switch (threads.state[t]) {
                case BLOCKED:
                    return program.code[x] == OP_ENTER || program.isWait(x);
                case WAITS:
                    return program.isWait(x);
                case WAITS_TIME:
                    return program.isBuiltIn(x, B_WAIT_TIME);
                case SLEEPS:
                    return program.isBuiltIn(x, B_SLEEP);
                case JOINS:
                    return program.isBuiltIn(x, B_JOIN) && isAlive(threads.joined[t]);
                case WAITS_CLASS:
                    return threads.wanted[t] != NONE && program.wantedAt(x) == threads.wanted[t];
                case TO_THROW:
                    return program.isWait(x) || program.isBuiltIn(x, B_SLEEP) || program.isBuiltIn(x, B_JOIN);
                default:
                    return true;
            }
        }

        private boolean isAlive(int t) {
            return t >= 0 && t < threads.count && threads.state[t] != DEAD;
        }

        private boolean isBehindWait(int t) {
            return threads.state[t] == BLOCKED && program.isWait(machine.standing(threads.top(t)));
        }

        /** Each that is blocked or waits stands just once in the line of its object, no other stands anywhere. */
        private boolean linesHold() {
            for (int t = 0; t < MOST_THREADS; t++) {
                int queued = 0;
                int waiting = 0;
                int right = 0;
                boolean isThere = t < threads.count;
                for (int i = 0; i < reader.monitors; i++) {
                    int inQueue = timesIn(reader.queue, i, reader.queueSize[i], t);
                    int inWaiters = timesIn(reader.waiter, i, reader.waiterSize[i], t);
                    queued += inQueue;
                    waiting += inWaiters;
                    boolean isIts = isThere && reader.monitorObject[i] == threads.object[t];
                    right += !isIts ? 0 : threads.state[t] == BLOCKED ? inQueue : threads.isWaiting(t) ? inWaiters : 0;
                }
                int due = isThere && (threads.state[t] == BLOCKED || threads.isWaiting(t)) ? 1 : 0;
                if (right != due || queued + waiting != due) {
                    return false;
                }
            }
            return true;
        }

        private int timesIn(int[] line, int monitor, int size, int t) {
            int times = 0;
            for (int k = 0; k < size; k++) {
                times += line[monitor * Reader.LINE + k] == t ? 1 : 0;
            }
            return times;
        }

        private boolean monitorsHold() {
            for (int i = 0; i < reader.monitors; i++) {
                if (!monitorHolds(i)) {
                    return false;
                }
                for (int j = 0; j < i; j++) {
                    if (reader.monitorObject[i] == reader.monitorObject[j]) {
                        return false;
                    }
                }
            }
            return true;
        }

        private boolean monitorHolds(int i) {
            int owner = reader.monitorOwner[i];
            int often = reader.monitorOften[i];
            if (owner == NONE) {
                return often == 0 && reader.queueSize[i] == 0;
            }
            if (!isAlive(owner)) {
                return false;
            }
            boolean isInLine = timesIn(reader.queue, i, reader.queueSize[i], owner) > 0
                || timesIn(reader.waiter, i, reader.waiterSize[i], owner) > 0;
            return !isInLine && often >= 1 && threads.heldBy(owner, reader.monitorObject[i]) == often;
        }

        private boolean heldHold() {
            for (int t = 0; t < threads.count; t++) {
                boolean isAway = threads.isWaiting(t) || isBehindWait(t);
                if (isAway && threads.heldBy(t, threads.object[t]) != threads.had[t]) {
                    return false;
                }
                for (int f = t * MOST_FRAMES; f < t * MOST_FRAMES + threads.frames[t]; f++) {
                    if (!ownsHeld(t, f, isAway ? threads.object[t] : 0)) {
                        return false;
                    }
                }
            }
            return true;
        }

        private boolean ownsHeld(int t, int f, int released) {
            for (int k = 0; k < threads.heldSize[f]; k++) {
                int o = threads.held[f * MOST_HELD + k];
                boolean isOwned = o == released;
                for (int i = 0; i < reader.monitors && !isOwned; i++) {
                    isOwned = reader.monitorObject[i] == o && reader.monitorOwner[i] == t;
                }
                if (!isOwned) {
                    return false;
                }
            }
            return true;
        }

        private boolean classesHold() {
            for (int c = 0; c < program.classes; c++) {
                boolean isBegun = machine.classState[c] == CLASS_BEGUN;
                int all = 0;
                int inThread = 0;
                for (int t = 0; t < threads.count; t++) {
                    int here = initialisersIn(t, c);
                    all += here;
                    inThread += machine.classThread[c] == t ? here : 0;
                }
                if (all != (isBegun ? 1 : 0) || isBegun && inThread != 1) {
                    return false;
                }
            }
            for (int t = 0; t < threads.count; t++) {
                int c = threads.wanted[t];
                boolean isOthers = c != NONE && machine.classState[c] == CLASS_BEGUN && machine.classThread[c] != t;
                if (threads.state[t] == WAITS_CLASS && !isOthers) {
                    return false;
                }
            }
            return true;
        }

        private int initialisersIn(int t, int c) {
            int found = 0;
            for (int f = t * MOST_FRAMES; f < t * MOST_FRAMES + threads.frames[t]; f++) {
                found += threads.method[f] == program.methods + c ? 1 : 0;
            }
            return found;
        }

        private boolean checkpointHolds() {
            int t = machine.pointThread;
            int k = machine.pointFrame;
            if (t == NONE) {
                return k == 0 && machine.pointPhase == PHASE_NONE && machine.pointCalled == 0 && heap.listCount == 0;
            }
            if (machine.pointPhase == PHASE_NONE || !isAlive(t) || k >= threads.frames[t]) {
                return false;
            }
            boolean isThere = program.isBuiltIn(machine.standing(t * MOST_FRAMES + k), B_CHECKPOINT);
            return isThere && machine.pointCalled <= heap.listCount;
        }

        private boolean listsHold() {
            for (int i = 0; i < heap.internedCount; i++) {
                for (int j = 0; j < i; j++) {
                    if (heap.isAlike(heap.interned[i], heap.interned[j])) {
                        return false;
                    }
                }
            }
            return areOnce(heap.list, heap.listCount) && areOnce(heap.registered, heap.registeredCount);
        }

        private boolean areOnce(int[] list, int count) {
            for (int i = 0; i < count; i++) {
                for (int j = 0; j < i; j++) {
                    if (list[i] == list[j]) {
                        return false;
                    }
                }
            }
            return true;
        }

        private boolean handHolds() {
            return machine.hand < threads.count;
        }

        private boolean hashesHold() {
            for (int o = 1; o <= reader.objects; o++) {
                if (heap.hash[o] != 0 && (heap.hash[o] < 0 || (heap.hash[o] & 1) == 0)) {
                    return false;
                }
            }
            return true;
        }

        private boolean threadsHold() {
            for (int t = 0; t < threads.count; t++) {
                int state = threads.state[t];
                boolean isBehind = state != DEAD && isBehindWait(t);
                boolean isInLine = state == BLOCKED || threads.isWaiting(t);
                boolean isRight = (state == DEAD || threads.deadBy[t] == 0)
                    && (threads.hasTime(t) || threads.time[t] == 0)
                    && (isInLine || threads.object[t] == 0)
                    && (state != DEAD || !threads.interrupted[t])
                    && (state == JOINS) == (threads.joined[t] != NONE)
                    && (state == WAITS_CLASS) == (threads.wanted[t] != NONE)
                    && (threads.isWaiting(t) || isBehind) == (threads.had[t] > 0)
                    && isBehind == (threads.outcome[t] > 0);
                if (!isRight) {
                    return false;
                }
            }
            return true;
        }
    }
}
