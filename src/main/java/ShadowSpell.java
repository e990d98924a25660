/** Planets on rails, whose shadows spell. */
public final class ShadowSpell {
    private static final int BYTES_FED = 20;
    private static final int COUNTS = 8;
    private static final int PLANET_FACTS = 7;
    private static final int FORESEEN = 3;
    private static final int MOST_DAYS_PASSED = 300;
    private static final int MOST_DAYS_ADVISED = 60;
    private static final int MOST_DAYS_AGAIN = 2000;
    private static final int MOST_DAYS_NEXT = 1000;
    private static final int MOST_DAYS_SPELLED = 400;
    private static final int SHIFTS = 36;
    private static final int DEGREES_A_SHIFT = 10;
    private static final int DIGEST_START = 727;
    private static final int DIGEST_FACTOR = 31;

    private final Tape tape;
    private final Reader reader;
    private final Sky sky;
    /** Looking ahead happens here, so that the sky itself never has to be put back. */
    private final Sky ahead;
    private Book book;
    /** A text is read into this one, so that one with an error leaves the other as it is. */
    private Book draft;
    private int errorPlace;

    public ShadowSpell() {
        tape = new Tape();
        sky = new Sky();
        ahead = new Sky();
        book = new Book();
        draft = new Book();
        reader = new Reader(tape, draft);
        errorPlace = -1;
    }

    // ---- the language

    public int feed(int a, int b, int c, int d, int e) throws IllegalStateException {
        if (!tape.hasRoomFor(BYTES_FED)) {
            throw new IllegalStateException("the tape is full");
        }
        tape.appendNumber(a);
        tape.appendNumber(b);
        tape.appendNumber(c);
        tape.appendNumber(d);
        tape.appendNumber(e);
        return tape.size();
    }

    public int trim(int n) throws IllegalArgumentException {
        if (n < 0 || n > tape.size()) {
            throw new IllegalArgumentException("the tape has not so many bytes");
        }
        tape.keepFirst(n);
        return n;
    }

    public int teach() {
        int error = reader.readInto(draft);
        errorPlace = reader.placeOfError();
        tape.keepFirst(0);
        if (error == 0) {
            Book old = book;
            book = draft;
            draft = old;
            sky.startWith(book);
        }
        return error;
    }

    public int errorAt() {
        return errorPlace;
    }

    public int count(int what) throws IndexOutOfBoundsException {
        if (what < 0 || what >= COUNTS) {
            throw new IndexOutOfBoundsException("there is no such count");
        }
        return counted(what);
    }

    // ---- the sky

    public int planet(int planet, int what) throws IndexOutOfBoundsException {
        if (!sky.hasPlanet(planet) || what < 0 || what >= PLANET_FACTS) {
            throw new IndexOutOfBoundsException("there is no such planet or fact");
        }
        return sky.factOf(planet, what);
    }

    public int set(int planet, int angle) throws IndexOutOfBoundsException, IllegalArgumentException {
        if (!sky.hasPlanet(planet)) {
            throw new IndexOutOfBoundsException("there is no such planet");
        }
        if (angle < 0 || angle >= Planet.CIRCLE) {
            throw new IllegalArgumentException("there is no such angle");
        }
        int old = sky.angleOf(planet);
        sky.putAt(planet, angle);
        return old;
    }

    public int gap(int a, int b) throws IndexOutOfBoundsException {
        if (!sky.hasPlanet(a) || !sky.hasPlanet(b)) {
            throw new IndexOutOfBoundsException("there is no such planet");
        }
        return sky.gapOf(a, b);
    }

    public boolean meets(int a, int b, boolean isOpposite) throws IndexOutOfBoundsException {
        if (!sky.hasPlanet(a) || !sky.hasPlanet(b)) {
            throw new IndexOutOfBoundsException("there is no such planet");
        }
        return sky.areMet(a, b, isOpposite);
    }

    public int letter(int alphabet, int index) throws IndexOutOfBoundsException {
        if (!book.hasAlphabet(alphabet) || index < 0 || index >= book.lettersOf(alphabet)) {
            throw new IndexOutOfBoundsException("there is no such alphabet or letter");
        }
        return book.letterOf(alphabet, index);
    }

    public int wrote(int rule) throws IndexOutOfBoundsException {
        if (rule < 0 || rule >= book.rules()) {
            throw new IndexOutOfBoundsException("there is no such rule");
        }
        return sky.writtenBy(rule);
    }

    // ---- days and the paper

    public int pass(int days) throws IllegalArgumentException {
        if (days < 1 || days > MOST_DAYS_PASSED) {
            throw new IllegalArgumentException("so many days can't go by");
        }
        return sky.live(days, book);
    }

    public int byteAt(int index) throws IndexOutOfBoundsException {
        if (index < 0 || index >= sky.paper().size()) {
            throw new IndexOutOfBoundsException("there is no such place on the paper");
        }
        return sky.paper().at(index);
    }

    public int clear() {
        int had = sky.paper().size();
        sky.paper().wipe();
        return had;
    }

    public int find() {
        return sky.paper().placeOf(tape, 0);
    }

    public int translate(int alphabet, int other) throws IndexOutOfBoundsException {
        if (!book.hasAlphabet(alphabet) || !book.hasAlphabet(other)) {
            throw new IndexOutOfBoundsException("there is no such alphabet");
        }
        return sky.paper().exchange(book, alphabet, other);
    }

    // ---- looking ahead

    public int foresee(int days, int what) throws IllegalArgumentException, IndexOutOfBoundsException {
        if (days < 1 || days > MOST_DAYS_PASSED) {
            throw new IllegalArgumentException("so many days can't be foreseen");
        }
        if (what < 0 || what >= FORESEEN) {
            throw new IndexOutOfBoundsException("there is nothing such to foresee");
        }
        ahead.copyFrom(sky);
        int letters = ahead.live(days, book);
        if (what == 0) {
            return letters;
        }
        return what == 1 ? ahead.transits() : ahead.laps();
    }

    public int next(int a, int b, boolean isOpposite) throws IndexOutOfBoundsException {
        if (!sky.hasPlanet(a) || !sky.hasPlanet(b)) {
            throw new IndexOutOfBoundsException("there is no such planet");
        }
        ahead.copyFrom(sky);
        for (int days = 1; days <= MOST_DAYS_NEXT; days++) {
            ahead.turn();
            if (ahead.areMet(a, b, isOpposite)) {
                return days;
            }
        }
        return -1;
    }

    public int spells() {
        if (tape.size() == 0) {
            return -1;
        }
        if (sky.paper().placeOf(tape, 0) >= 0) {
            return 0;
        }
        ahead.copyFrom(sky);
        for (int days = 1; days <= MOST_DAYS_SPELLED; days++) {
            // What stood there before was looked through already: only what ends in new letters is new.
            int from = ahead.paper().size() - tape.size() + 1;
            if (ahead.live(1, book) > 0 && ahead.paper().placeOf(tape, Math.max(from, 0)) >= 0) {
                return days;
            }
        }
        return -1;
    }

    public int again(int days) throws IllegalArgumentException {
        if (days < 1 || days > MOST_DAYS_AGAIN) {
            throw new IllegalArgumentException("so many days can't be looked through");
        }
        if (sky.planets() == 0) {
            return -1;
        }
        ahead.copyFrom(sky);
        for (int day = 1; day <= days; day++) {
            ahead.turn();
            if (ahead.standsAs(sky)) {
                return day;
            }
        }
        return -1;
    }

    public int advise(int planet, int days) throws IndexOutOfBoundsException, IllegalArgumentException {
        if (!sky.hasPlanet(planet)) {
            throw new IndexOutOfBoundsException("there is no such planet");
        }
        if (days < 1 || days > MOST_DAYS_ADVISED) {
            throw new IllegalArgumentException("so many days can't be looked through");
        }
        int best = 0;
        int most = -1;
        for (int n = 0; n < SHIFTS; n++) {
            ahead.copyFrom(sky);
            ahead.putAt(planet, (sky.angleOf(planet) + n * DEGREES_A_SHIFT) % Planet.CIRCLE);
            int letters = ahead.live(days, book);
            if (letters > most) {
                most = letters;
                best = n;
            }
        }
        return best;
    }

    public double mean() {
        int day = sky.day();
        if (day == 0) {
            return 0;
        }
        int sum = 0;
        for (int rule = 0; rule < book.rules(); rule++) {
            sum += sky.writtenBy(rule);
        }
        return (double) sum / (double) day;
    }

    public long digest() {
        long d = DIGEST_START;
        for (int what = 0; what < COUNTS; what++) {
            d = mixed(d, counted(what));
        }
        for (int planet = 0; planet < sky.planets(); planet++) {
            for (int what = 0; what < PLANET_FACTS; what++) {
                d = mixed(d, sky.factOf(planet, what));
            }
        }
        for (int alphabet = 0; alphabet < book.alphabets(); alphabet++) {
            d = mixed(d, book.lettersOf(alphabet));
            for (int index = 0; index < book.lettersOf(alphabet); index++) {
                d = mixed(d, book.letterOf(alphabet, index));
            }
        }
        for (int rule = 0; rule < book.rules(); rule++) {
            d = mixed(d, sky.writtenBy(rule));
        }
        for (int index = 0; index < sky.paper().size(); index++) {
            d = mixed(d, sky.paper().at(index));
        }
        return d;
    }

    private static long mixed(long d, int x) {
        return d * DIGEST_FACTOR + x;
    }

    private int counted(int what) {
        switch (what) {
            case 0: return sky.day();
            case 1: return sky.planets();
            case 2: return book.alphabets();
            case 3: return book.rules();
            case 4: return tape.size();
            case 5: return sky.paper().size();
            case 6: return sky.retros();
            default: return sky.transits();
        }
    }

    /** The bytes that are fed, as numbers 0 to 255. */
    private static final class Tape {
        static final int LIMIT = 2000;

        private final int[] bytes = new int[LIMIT];
        private int size;

        int size() {
            return size;
        }

        boolean hasRoomFor(int more) {
            return size + more <= LIMIT;
        }

        void appendNumber(int number) {
            append(number >>> 24);
            append(number >>> 16);
            append(number >>> 8);
            append(number);
        }

        private void append(int number) {
            if (size < LIMIT) {
                bytes[size] = number & 255;
                size++;
            }
        }

        void keepFirst(int n) {
            if (n >= 0 && n < size) {
                size = n;
            }
        }

        int at(int place) {
            return place >= 0 && place < size ? bytes[place] : 0;
        }

        boolean isAt(int place, String spelling) {
            if (place < 0 || place + spelling.length() > size) {
                return false;
            }
            for (int i = 0; i < spelling.length(); i++) {
                if (bytes[place + i] != spelling.charAt(i)) {
                    return false;
                }
            }
            return true;
        }
    }

    /** The kinds of tokens, with what is written for those that are always written alike. */
    private enum Kind {
        END("", -1), BAD("", -1), NAME("", -1), NUMBER("", -1),
        PLANET("planet", -1), RAIL("rail", -1), SPEED("speed", -1), FROM("from", -1),
        RETRO("retro", -1), EVERY("every", -1), ALPHABET("alphabet", -1), WHEN("when", -1),
        WRITE("write", -1), OF("of", -1),
        TRANSIT("transit", Program.TRANSIT), OPPOSITE("opposite", Program.OPPOSITE),
        AT("at", Program.AT), LAP("lap", Program.LAP), GAP("gap", Program.GAP),
        DAY("day", Program.DAY), LENGTH("length", Program.LENGTH),
        NOT("not", Program.NOT), AND("and", Program.AND), OR("or", Program.OR),
        MIN("min", Program.MIN), MAX("max", Program.MAX),
        OPEN("(", -1), CLOSE(")", -1), OPEN_TEST("[", -1), CLOSE_TEST("]", -1),
        SEMICOLON(";", -1), COMMA(",", -1),
        PLUS("+", Program.ADD), MINUS("-", Program.SUBTRACT),
        TIMES("*", Program.MULTIPLY), OVER("/", Program.DIVIDE), REST("%", Program.REMAIN),
        LESS("<", Program.LESS), GREATER(">", Program.GREATER), EQUAL("=", Program.EQUAL),
        AT_MOST("<=", Program.AT_MOST), AT_LEAST(">=", Program.AT_LEAST);

        private static final Kind[] ALL = values();

        private final String spelling;
        /** What a program does for it, -1 for nothing. */
        private final int step;

        Kind(String spelling, int step) {
            this.spelling = spelling;
            this.step = step;
        }

        int step() {
            return step;
        }

        static Kind ofWord(Tape tape, int start, int length) {
            for (int i = 0; i < ALL.length; i++) {
                Kind kind = ALL[i];
                if (kind.spelling.length() == length && tape.isAt(start, kind.spelling)) {
                    return kind;
                }
            }
            return NAME;
        }

        static Kind ofSymbol(Tape tape, int start) {
            Kind longest = BAD;
            for (int i = 0; i < ALL.length; i++) {
                Kind kind = ALL[i];
                if (kind.spelling.length() > longest.spelling.length() && tape.isAt(start, kind.spelling)) {
                    longest = kind;
                }
            }
            return longest;
        }

        int length() {
            return spelling.length();
        }
    }

    /**
     * Takes the tape apart into tokens, up to the end or to the first one that is none; then they are taken from the
     * first one on, and what is told is told of the one in front.
     */
    private static final class Scanner {
        static final int MOST_TOKENS = 400;
        static final int MOST_WORD = 12;
        private static final int MOST_DIGITS = 6;
        private static final int BLANK = 32;
        private static final int LINE_END = 10;
        /** Greater than the 36 signs of words, so that no two words of up to 12 signs have one code. */
        private static final int CODE_BASE = 37;
        /** One more for the end, or for the token that is too many. */
        private static final int ROWS = MOST_TOKENS + 1;

        private final Tape tape;
        private final Kind[] kinds = new Kind[ROWS];
        private final int[] starts = new int[ROWS];
        private final int[] lengths = new int[ROWS];
        private final long[] words = new long[ROWS];
        private final int[] numbers = new int[ROWS];
        private int rows;
        private int front;
        private int place;
        private long word;
        private int number;

        Scanner(Tape tape) {
            this.tape = tape;
        }

        void scan() {
            front = 0;
            place = 0;
            boolean isMore = true;
            for (rows = 0; rows < ROWS && isMore; rows++) {
                skipBlanks();
                int start = place;
                Kind kind = readToken();
                if (rows == MOST_TOKENS && kind != Kind.END) {
                    kind = Kind.BAD;
                }
                kinds[rows] = kind;
                starts[rows] = start;
                lengths[rows] = place - start;
                words[rows] = word;
                numbers[rows] = number;
                isMore = kind != Kind.END && kind != Kind.BAD;
            }
        }

        boolean isAt(Kind kind) {
            return front < rows && kinds[front] == kind;
        }

        Kind kind() {
            return front < rows ? kinds[front] : Kind.BAD;
        }

        boolean take(Kind kind) {
            if (front >= rows || kinds[front] != kind) {
                return false;
            }
            front++;
            return true;
        }

        boolean takeAny() {
            if (front >= rows) {
                return false;
            }
            front++;
            return true;
        }

        int start() {
            return front < rows ? starts[front] : 0;
        }

        int length() {
            return front < rows ? lengths[front] : 0;
        }

        int signAt(int index) {
            return front < rows ? tape.at(starts[front] + index) : 0;
        }

        /** A code for a word: two words have one code only if they are equal. */
        long word() {
            return front < rows ? words[front] : 0;
        }

        int number() {
            return front < rows ? numbers[front] : 0;
        }

        private void skipBlanks() {
            while (place < tape.size() && (tape.at(place) == BLANK || tape.at(place) == LINE_END)) {
                place++;
            }
        }

        private Kind readToken() {
            word = 0;
            number = 0;
            if (place >= tape.size()) {
                return Kind.END;
            }
            int sign = tape.at(place);
            if (isLetter(sign)) {
                return readWord();
            }
            if (isDigit(sign)) {
                return readNumber();
            }
            Kind kind = Kind.ofSymbol(tape, place);
            place += kind.length();
            return kind;
        }

        private Kind readWord() {
            int start = place;
            while (place < tape.size() && (isLetter(tape.at(place)) || isDigit(tape.at(place)))) {
                word = word * CODE_BASE + codeOf(tape.at(place));
                place++;
            }
            return place - start > MOST_WORD ? Kind.BAD : Kind.ofWord(tape, start, place - start);
        }

        private Kind readNumber() {
            int start = place;
            while (place < tape.size() && isDigit(tape.at(place))) {
                number = number * 10 + tape.at(place) - '0';
                place++;
            }
            return place - start > MOST_DIGITS ? Kind.BAD : Kind.NUMBER;
        }

        private static int codeOf(int sign) {
            return isLetter(sign) ? sign - 'a' + 1 : sign - '0' + 27;
        }

        static boolean isLetter(int sign) {
            return sign >= 'a' && sign <= 'z';
        }

        static boolean isDigit(int sign) {
            return sign >= '0' && sign <= '9';
        }
    }

    /**
     * Reads a text into a book, by the grammar. Its functions return whether there is no error 1 so far; of the other
     * errors the first one is kept, and the reading goes on, since an error 1 behind it goes before it.
     */
    private static final class Reader {
        private static final int MOST_DEPTH = 8;
        private static final int NOT_GRAMMAR = 1;
        private static final int TOLD_TWICE = 2;
        private static final int UNKNOWN = 3;
        private static final int TOO_MANY = 4;
        private static final int OUT_OF_RANGE = 5;
        private static final int SAME_PLANET = 6;
        private static final int WRONG_LETTERS = 7;

        private final Scanner scanner;
        private final Alphabet letters = new Alphabet();
        private Book book;
        private int error;
        private int errorPlace;
        /** What the latest number was, or the number of the planet or alphabet that was named latest. */
        private int latest;

        Reader(Tape tape, Book target) {
            scanner = new Scanner(tape);
            book = target;
        }

        int placeOfError() {
            return errorPlace;
        }

        int readInto(Book target) {
            book = target;
            book.empty();
            scanner.scan();
            error = 0;
            errorPlace = -1;
            boolean isText = true;
            for (int n = 0; n < Scanner.MOST_TOKENS && isText && !scanner.isAt(Kind.END); n++) {
                if (scanner.isAt(Kind.PLANET)) {
                    isText = readPlanet();
                } else if (scanner.isAt(Kind.ALPHABET)) {
                    isText = readAlphabet();
                } else {
                    isText = scanner.isAt(Kind.WHEN) && readRule();
                }
            }
            if (!isText || !scanner.isAt(Kind.END)) {
                error = NOT_GRAMMAR;
                errorPlace = scanner.start();
            }
            return error;
        }

        private void blame(int number, int place) {
            if (error == 0) {
                error = number;
                errorPlace = place;
            }
        }

        /** Takes a token behind which the depth is greater, if it may be. */
        private boolean takeDeeper(Kind wanted, int depth) {
            return depth < MOST_DEPTH && scanner.take(wanted);
        }

        private boolean write(int step, int a, int b) {
            book.program().add(step, a, b);
            return true;
        }

        private boolean readPlanet() {
            if (!scanner.take(Kind.PLANET) || !scanner.isAt(Kind.NAME)) {
                return false;
            }
            long name = scanner.word();
            checkNewName(book.planetNamed(name), book.planets() < Book.MOST_PLANETS);
            if (!scanner.take(Kind.NAME) || !scanner.take(Kind.RAIL) || !readNumber(1, 20)) {
                return false;
            }
            int rail = latest;
            if (!scanner.take(Kind.SPEED) || !readNumber(1, 60)) {
                return false;
            }
            int speed = latest;
            int angle = 0;
            if (scanner.isAt(Kind.FROM)) {
                if (!scanner.take(Kind.FROM) || !readNumber(0, Planet.CIRCLE - 1)) {
                    return false;
                }
                angle = latest;
            }
            int retro = 0;
            int every = 1;
            if (scanner.isAt(Kind.RETRO)) {
                if (!scanner.take(Kind.RETRO) || !readNumber(0, 29)) {
                    return false;
                }
                retro = latest;
                if (!scanner.take(Kind.EVERY) || !readNumber(retro + 1, 60)) {
                    return false;
                }
                every = latest;
            }
            book.addPlanet(name, rail, speed, angle, retro, every);
            return scanner.take(Kind.SEMICOLON);
        }

        private boolean readAlphabet() {
            if (!scanner.take(Kind.ALPHABET) || !scanner.isAt(Kind.NAME)) {
                return false;
            }
            long name = scanner.word();
            checkNewName(book.alphabetNamed(name), book.alphabets() < Book.MOST_ALPHABETS);
            if (!scanner.take(Kind.NAME) || !scanner.isAt(Kind.NAME)) {
                return false;
            }
            readLetters();
            book.addAlphabet(name, letters);
            return scanner.take(Kind.NAME) && scanner.take(Kind.SEMICOLON);
        }

        private void readLetters() {
            letters.empty();
            for (int i = 0; i < Scanner.MOST_WORD && i < scanner.length(); i++) {
                int sign = scanner.signAt(i);
                if (Scanner.isDigit(sign) || letters.numberOf(sign) >= 0) {
                    blame(WRONG_LETTERS, scanner.start());
                }
                letters.add(sign);
            }
        }

        private boolean readRule() {
            if (book.rules() >= Book.MOST_RULES) {
                blame(TOO_MANY, scanner.start());
            }
            int test = book.program().size();
            if (!scanner.take(Kind.WHEN) || !readTest(0) || !scanner.take(Kind.WRITE)) {
                return false;
            }
            int sum = book.program().size();
            if (!readSum(0) || !scanner.take(Kind.OF) || !readName(true)) {
                return false;
            }
            book.addRule(test, sum, latest);
            return scanner.take(Kind.SEMICOLON);
        }

        private void checkNewName(int twin, boolean isRoom) {
            if (twin >= 0) {
                blame(TOLD_TWICE, scanner.start());
            }
            if (!isRoom) {
                blame(TOO_MANY, scanner.start());
            }
        }

        private boolean readName(boolean isAlphabet) {
            if (!scanner.isAt(Kind.NAME)) {
                return false;
            }
            long name = scanner.word();
            latest = isAlphabet ? book.alphabetNamed(name) : book.planetNamed(name);
            if (latest < 0) {
                blame(UNKNOWN, scanner.start());
            }
            return scanner.take(Kind.NAME);
        }

        private boolean readNumber(int least, int most) {
            if (!scanner.isAt(Kind.NUMBER)) {
                return false;
            }
            latest = scanner.number();
            if (latest < least || latest > most) {
                blame(OUT_OF_RANGE, scanner.start());
            }
            return scanner.take(Kind.NUMBER);
        }

        private boolean readTest(int depth) {
            if (!readBoth(depth)) {
                return false;
            }
            for (int n = 0; n < Scanner.MOST_TOKENS && scanner.isAt(Kind.OR); n++) {
                if (!scanner.take(Kind.OR) || !readBoth(depth)) {
                    return false;
                }
                write(Program.OR, 0, 0);
            }
            return true;
        }

        private boolean readBoth(int depth) {
            if (!readSingle(depth)) {
                return false;
            }
            for (int n = 0; n < Scanner.MOST_TOKENS && scanner.isAt(Kind.AND); n++) {
                if (!scanner.take(Kind.AND) || !readSingle(depth)) {
                    return false;
                }
                write(Program.AND, 0, 0);
            }
            return true;
        }

        private boolean readSingle(int depth) {
            if (scanner.isAt(Kind.NOT)) {
                return takeDeeper(Kind.NOT, depth) && readSingle(depth + 1) && write(Program.NOT, 0, 0);
            }
            if (scanner.isAt(Kind.OPEN_TEST)) {
                return takeDeeper(Kind.OPEN_TEST, depth) && readTest(depth + 1) && scanner.take(Kind.CLOSE_TEST);
            }
            if (scanner.isAt(Kind.TRANSIT) || scanner.isAt(Kind.OPPOSITE)) {
                return readOfTwo();
            }
            if (scanner.isAt(Kind.RETRO)) {
                return scanner.take(Kind.RETRO) && readName(false) && write(Program.RETRO, latest, 0);
            }
            if (!readSum(depth)) {
                return false;
            }
            int step = scanner.kind().step();
            return Program.isComparison(step) && scanner.takeAny() && readSum(depth) && write(step, 0, 0);
        }

        private boolean readOfTwo() {
            int step = scanner.kind().step();
            if (!scanner.takeAny() || !readName(false)) {
                return false;
            }
            int first = latest;
            int second = scanner.start();
            if (!readName(false)) {
                return false;
            }
            if (latest == first) {
                blame(SAME_PLANET, second);
            }
            return write(step, first, latest);
        }

        private boolean readSum(int depth) {
            if (!readProduct(depth)) {
                return false;
            }
            for (int n = 0; n < Scanner.MOST_TOKENS && (scanner.isAt(Kind.PLUS) || scanner.isAt(Kind.MINUS)); n++) {
                int step = scanner.kind().step();
                if (!scanner.takeAny() || !readProduct(depth)) {
                    return false;
                }
                write(step, 0, 0);
            }
            return true;
        }

        private boolean readProduct(int depth) {
            if (!readValue(depth)) {
                return false;
            }
            for (int n = 0; n < Scanner.MOST_TOKENS && Program.isProduct(scanner.kind().step()); n++) {
                int step = scanner.kind().step();
                if (!scanner.takeAny() || !readValue(depth)) {
                    return false;
                }
                write(step, 0, 0);
            }
            return true;
        }

        private boolean readValue(int depth) {
            int step = scanner.kind().step();
            if (scanner.isAt(Kind.NUMBER)) {
                return write(Program.NUMBER, scanner.number(), 0) && scanner.takeAny();
            }
            if (scanner.isAt(Kind.DAY) || scanner.isAt(Kind.LENGTH)) {
                return write(step, 0, 0) && scanner.takeAny();
            }
            if (scanner.isAt(Kind.AT) || scanner.isAt(Kind.LAP)) {
                return scanner.takeAny() && readName(false) && write(step, latest, 0);
            }
            if (scanner.isAt(Kind.GAP)) {
                return readOfTwo();
            }
            if (scanner.isAt(Kind.MINUS)) {
                return takeDeeper(Kind.MINUS, depth) && readValue(depth + 1) && write(Program.NEGATE, 0, 0);
            }
            if (scanner.isAt(Kind.MIN) || scanner.isAt(Kind.MAX)) {
                return scanner.takeAny() && takeDeeper(Kind.OPEN, depth) && readSum(depth + 1)
                    && scanner.take(Kind.COMMA) && readSum(depth + 1) && scanner.take(Kind.CLOSE) && write(step, 0, 0);
            }
            return takeDeeper(Kind.OPEN, depth) && readSum(depth + 1) && scanner.take(Kind.CLOSE);
        }
    }

    /** The letters of an alphabet, in their order. */
    private static final class Alphabet {
        private final int[] letters = new int[Scanner.MOST_WORD];
        private int size;

        void empty() {
            size = 0;
        }

        int size() {
            return size;
        }

        void add(int sign) {
            if (size < letters.length) {
                letters[size] = sign;
                size++;
            }
        }

        int at(int index) {
            return index >= 0 && index < size ? letters[index] : 0;
        }

        int numberOf(int sign) {
            for (int i = 0; i < size; i++) {
                if (letters[i] == sign) {
                    return i;
                }
            }
            return -1;
        }

        void copyFrom(Alphabet other) {
            System.arraycopy(other.letters, 0, letters, 0, letters.length);
            size = other.size;
        }
    }

    /** Tests and sums, each as steps behind their operands; truth is 1, its opposite 0. */
    private static final class Program {
        // Steps that ask the sky:
        static final int NUMBER = 0;
        static final int DAY = 1;
        static final int LENGTH = 2;
        static final int AT = 3;
        static final int LAP = 4;
        static final int GAP = 5;
        static final int RETRO = 6;
        static final int TRANSIT = 7;
        static final int OPPOSITE = 8;
        // Steps for one operand:
        static final int NEGATE = 9;
        static final int NOT = 10;
        // Steps for two operands:
        static final int AND = 11;
        static final int OR = 12;
        static final int MIN = 13;
        static final int MAX = 14;
        static final int ADD = 15;
        static final int SUBTRACT = 16;
        static final int MULTIPLY = 17;
        static final int DIVIDE = 18;
        static final int REMAIN = 19;
        static final int LESS = 20;
        static final int GREATER = 21;
        static final int EQUAL = 22;
        static final int AT_MOST = 23;
        static final int AT_LEAST = 24;

        /** No token makes more than one step. */
        private static final int LIMIT = Scanner.MOST_TOKENS;

        private final int[] steps = new int[LIMIT];
        private final int[] firsts = new int[LIMIT];
        private final int[] seconds = new int[LIMIT];
        private int size;
        /** Its height is never above the number of steps. */
        private final int[] stack = new int[LIMIT];
        private int height;

        static boolean isComparison(int step) {
            return step >= LESS && step <= AT_LEAST;
        }

        static boolean isProduct(int step) {
            return step >= MULTIPLY && step <= REMAIN;
        }

        void empty() {
            size = 0;
        }

        int size() {
            return size;
        }

        void add(int step, int first, int second) {
            if (size < LIMIT) {
                steps[size] = step;
                firsts[size] = first;
                seconds[size] = second;
                size++;
            }
        }

        int reckon(int from, int to, Sky sky) {
            height = 0;
            for (int i = Math.max(from, 0); i < to && i < size; i++) {
                int step = steps[i];
                if (step < NEGATE) {
                    push(asked(step, firsts[i], seconds[i], sky));
                } else if (step < AND) {
                    push(turned(step, pop()));
                } else {
                    int right = pop();
                    push(joined(step, pop(), right));
                }
            }
            return pop();
        }

        private void push(int value) {
            if (height < LIMIT) {
                stack[height] = value;
                height++;
            }
        }

        private int pop() {
            if (height == 0) {
                return 0;
            }
            height--;
            return stack[height];
        }

        private static int asked(int step, int first, int second, Sky sky) {
            switch (step) {
                case NUMBER: return first;
                case DAY: return sky.day();
                case LENGTH: return sky.paper().size();
                case AT: return sky.angleOf(first);
                case LAP: return sky.lapOf(first);
                case GAP: return sky.gapOf(first, second);
                case RETRO: return truth(sky.isRetro(first));
                case TRANSIT: return truth(sky.isInside(first, second) && sky.areMet(first, second, false));
                default: return truth(sky.areMet(first, second, true));
            }
        }

        private static int turned(int step, int value) {
            return step == NEGATE ? -value : truth(value == 0);
        }

        private static int joined(int step, int left, int right) {
            switch (step) {
                case AND: return left & right;
                case OR: return left | right;
                case MIN: return Math.min(left, right);
                case MAX: return Math.max(left, right);
                case ADD: return left + right;
                case SUBTRACT: return left - right;
                case MULTIPLY: return left * right;
                case DIVIDE: return right == 0 ? 0 : left / right;
                case REMAIN: return right == 0 ? 0 : left % right;
                case LESS: return truth(left < right);
                case GREATER: return truth(left > right);
                case EQUAL: return truth(left == right);
                case AT_MOST: return truth(left <= right);
                default: return truth(left >= right);
            }
        }

        private static int truth(boolean holds) {
            return holds ? 1 : 0;
        }
    }

    /** What a text tells, as it is told. */
    private static final class Book {
        static final int MOST_PLANETS = 8;
        static final int MOST_ALPHABETS = 6;
        static final int MOST_RULES = 12;

        private final Planet[] planets = new Planet[MOST_PLANETS];
        private final long[] planetNames = new long[MOST_PLANETS];
        private int planetCount;
        private final Alphabet[] alphabets = new Alphabet[MOST_ALPHABETS];
        private final long[] alphabetNames = new long[MOST_ALPHABETS];
        private int alphabetCount;
        private final Program program = new Program();
        /** Where in the program the test of a rule begins, where its sum does, and where that ends. */
        private final int[] tests = new int[MOST_RULES];
        private final int[] sums = new int[MOST_RULES];
        private final int[] ends = new int[MOST_RULES];
        private final int[] ruleAlphabets = new int[MOST_RULES];
        private int ruleCount;

        Book() {
            for (int i = 0; i < MOST_PLANETS; i++) {
                planets[i] = new Planet();
            }
            for (int i = 0; i < MOST_ALPHABETS; i++) {
                alphabets[i] = new Alphabet();
            }
        }

        void empty() {
            planetCount = 0;
            alphabetCount = 0;
            ruleCount = 0;
            program.empty();
        }

        Program program() {
            return program;
        }

        int planets() {
            return planetCount;
        }

        int alphabets() {
            return alphabetCount;
        }

        int rules() {
            return ruleCount;
        }

        void addPlanet(long name, int rail, int speed, int angle, int retro, int every) {
            if (planetCount < MOST_PLANETS) {
                planets[planetCount].tell(rail, speed, angle, retro, every);
                planetNames[planetCount] = name;
                planetCount++;
            }
        }

        void addAlphabet(long name, Alphabet letters) {
            if (alphabetCount < MOST_ALPHABETS) {
                alphabets[alphabetCount].copyFrom(letters);
                alphabetNames[alphabetCount] = name;
                alphabetCount++;
            }
        }

        void addRule(int test, int sum, int alphabet) {
            if (ruleCount < MOST_RULES) {
                tests[ruleCount] = test;
                sums[ruleCount] = sum;
                ends[ruleCount] = program.size();
                ruleAlphabets[ruleCount] = alphabet;
                ruleCount++;
            }
        }

        int planetNamed(long name) {
            for (int i = 0; i < planetCount; i++) {
                if (planetNames[i] == name) {
                    return i;
                }
            }
            return -1;
        }

        int alphabetNamed(long name) {
            for (int i = 0; i < alphabetCount; i++) {
                if (alphabetNames[i] == name) {
                    return i;
                }
            }
            return -1;
        }

        void copyPlanetTo(int planet, Planet target) {
            if (planet >= 0 && planet < planetCount) {
                target.copyFrom(planets[planet]);
            }
        }

        boolean hasAlphabet(int alphabet) {
            return alphabet >= 0 && alphabet < alphabetCount;
        }

        int lettersOf(int alphabet) {
            return hasAlphabet(alphabet) ? alphabets[alphabet].size() : 0;
        }

        int letterOf(int alphabet, int index) {
            return hasAlphabet(alphabet) ? alphabets[alphabet].at(index) : 0;
        }

        int numberOf(int alphabet, int sign) {
            return hasAlphabet(alphabet) ? alphabets[alphabet].numberOf(sign) : -1;
        }

        boolean holds(int rule, Sky sky) {
            return isRule(rule) && program.reckon(tests[rule], sums[rule], sky) != 0;
        }

        int sumOf(int rule, Sky sky) {
            return isRule(rule) ? program.reckon(sums[rule], ends[rule], sky) : 0;
        }

        int letterBy(int rule, int sum) {
            int alphabet = isRule(rule) ? ruleAlphabets[rule] : -1;
            int letters = lettersOf(alphabet);
            return letters == 0 ? 0 : letterOf(alphabet, Math.floorMod(sum, letters));
        }

        private boolean isRule(int rule) {
            return rule >= 0 && rule < ruleCount;
        }
    }

    /** A planet, as it is told and where it is. */
    private static final class Planet {
        static final int CIRCLE = 360;
        static final int HALF = 180;

        private int rail;
        private int speed;
        private int retro;
        private int every = 1;
        private int angle;
        private int angleBefore;
        private int lap;

        void tell(int newRail, int newSpeed, int newAngle, int newRetro, int newEvery) {
            rail = newRail;
            speed = newSpeed;
            retro = newRetro;
            every = newEvery;
            lap = 0;
            putAt(newAngle);
        }

        void copyFrom(Planet other) {
            rail = other.rail;
            speed = other.speed;
            retro = other.retro;
            every = other.every;
            angle = other.angle;
            angleBefore = other.angleBefore;
            lap = other.lap;
        }

        void putAt(int newAngle) {
            angle = newAngle;
            angleBefore = newAngle;
        }

        int rail() {
            return rail;
        }

        int angle() {
            return angle;
        }

        int angleBefore() {
            return angleBefore;
        }

        int lap() {
            return lap;
        }

        int fact(int what, int day) {
            switch (what) {
                case 0: return rail;
                case 1: return speed;
                case 2: return angle;
                case 3: return lap;
                case 4: return retro;
                case 5: return every;
                default: return isRetro(day) ? 1 : 0;
            }
        }

        boolean isRetro(int day) {
            return every > 0 && day % every < retro;
        }

        void turn(int day) {
            angleBefore = angle;
            angle += isRetro(day) ? -speed : speed;
            if (angle >= CIRCLE) {
                angle -= CIRCLE;
                lap++;
            } else if (angle < 0) {
                angle += CIRCLE;
                lap--;
            }
        }

        /** An angle, brought into -179 to 180. */
        static int shortest(int degrees) {
            int turned = degrees % CIRCLE;
            if (turned > HALF) {
                return turned - CIRCLE;
            }
            return turned <= -HALF ? turned + CIRCLE : turned;
        }
    }

    /** What the rules wrote. */
    private static final class Paper {
        private static final int LIMIT = 600;

        private final int[] bytes = new int[LIMIT];
        private int size;

        int size() {
            return size;
        }

        boolean isFull() {
            return size >= LIMIT;
        }

        void wipe() {
            size = 0;
        }

        void append(int sign) {
            if (!isFull()) {
                bytes[size] = sign;
                size++;
            }
        }

        int at(int place) {
            return place >= 0 && place < size ? bytes[place] : 0;
        }

        void copyFrom(Paper other) {
            System.arraycopy(other.bytes, 0, bytes, 0, other.size);
            size = other.size;
        }

        /** The first place, not before the given one, where the bytes of the tape are. */
        int placeOf(Tape tape, int from) {
            if (tape.size() == 0) {
                return -1;
            }
            for (int place = from; place + tape.size() <= size; place++) {
                if (isAt(place, tape)) {
                    return place;
                }
            }
            return -1;
        }

        private boolean isAt(int place, Tape tape) {
            for (int i = 0; i < tape.size(); i++) {
                if (at(place + i) != tape.at(i)) {
                    return false;
                }
            }
            return true;
        }

        int exchange(Book book, int alphabet, int other) {
            int changed = 0;
            for (int place = 0; place < size; place++) {
                int number = book.numberOf(alphabet, bytes[place]);
                if (number >= 0 && number < book.lettersOf(other)) {
                    int sign = book.letterOf(other, number);
                    changed += sign == bytes[place] ? 0 : 1;
                    bytes[place] = sign;
                }
            }
            return changed;
        }
    }

    /** All that days change: the day, the planets, the paper, and how often the rules wrote. */
    private static final class Sky {
        private final Planet[] planets = new Planet[Book.MOST_PLANETS];
        private int planetCount;
        private final int[] written = new int[Book.MOST_RULES];
        private final Paper paper = new Paper();
        private int day;

        Sky() {
            for (int i = 0; i < Book.MOST_PLANETS; i++) {
                planets[i] = new Planet();
            }
        }

        void startWith(Book book) {
            planetCount = Math.min(book.planets(), Book.MOST_PLANETS);
            for (int i = 0; i < planetCount; i++) {
                book.copyPlanetTo(i, planets[i]);
            }
            for (int i = 0; i < Book.MOST_RULES; i++) {
                written[i] = 0;
            }
        }

        void copyFrom(Sky other) {
            day = other.day;
            planetCount = other.planetCount;
            for (int i = 0; i < planetCount; i++) {
                planets[i].copyFrom(other.planets[i]);
            }
            System.arraycopy(other.written, 0, written, 0, Book.MOST_RULES);
            paper.copyFrom(other.paper);
        }

        int day() {
            return day;
        }

        Paper paper() {
            return paper;
        }

        int planets() {
            return planetCount;
        }

        boolean hasPlanet(int planet) {
            return planet >= 0 && planet < planetCount;
        }

        int factOf(int planet, int what) {
            return hasPlanet(planet) ? planets[planet].fact(what, day) : 0;
        }

        int angleOf(int planet) {
            return hasPlanet(planet) ? planets[planet].angle() : 0;
        }

        int lapOf(int planet) {
            return hasPlanet(planet) ? planets[planet].lap() : 0;
        }

        boolean isRetro(int planet) {
            return hasPlanet(planet) && planets[planet].isRetro(day);
        }

        void putAt(int planet, int angle) {
            if (hasPlanet(planet)) {
                planets[planet].putAt(angle);
            }
        }

        int gapOf(int a, int b) {
            return hasPlanet(a) && hasPlanet(b) ? Planet.shortest(planets[a].angle() - planets[b].angle()) : 0;
        }

        boolean areMet(int a, int b, boolean isOpposite) {
            if (!hasPlanet(a) || !hasPlanet(b)) {
                return false;
            }
            int further = isOpposite ? Planet.HALF : 0;
            int now = Planet.shortest(planets[a].angle() - planets[b].angle() - further);
            int before = Planet.shortest(planets[a].angleBefore() - planets[b].angleBefore() - further);
            if (now == 0) {
                return true;
            }
            boolean isOtherSide = before < 0 && now > 0 || before > 0 && now < 0;
            return isOtherSide && Math.abs(before) + Math.abs(now) < Planet.HALF;
        }

        /** Whether the rail of the first planet is not greater. */
        boolean isInside(int a, int b) {
            return hasPlanet(a) && hasPlanet(b) && planets[a].rail() <= planets[b].rail();
        }

        int writtenBy(int rule) {
            return rule >= 0 && rule < Book.MOST_RULES ? written[rule] : 0;
        }

        int retros() {
            int found = 0;
            for (int i = 0; i < planetCount; i++) {
                found += isRetro(i) ? 1 : 0;
            }
            return found;
        }

        int transits() {
            int found = 0;
            for (int a = 0; a < planetCount; a++) {
                for (int b = a + 1; b < planetCount; b++) {
                    found += areMet(a, b, false) ? 1 : 0;
                }
            }
            return found;
        }

        int laps() {
            int sum = 0;
            for (int i = 0; i < planetCount; i++) {
                sum += planets[i].lap();
            }
            return sum;
        }

        boolean standsAs(Sky other) {
            for (int i = 0; i < planetCount; i++) {
                if (planets[i].angle() != other.angleOf(i)) {
                    return false;
                }
            }
            return true;
        }

        /** Lets days go by, and returns how many letters are written in them. */
        int live(int days, Book book) {
            int before = paper.size();
            for (int i = 0; i < days; i++) {
                turn();
                for (int rule = 0; rule < Book.MOST_RULES && rule < book.rules(); rule++) {
                    if (!paper.isFull() && book.holds(rule, this)) {
                        paper.append(book.letterBy(rule, book.sumOf(rule, this)));
                        written[rule]++;
                    }
                }
            }
            return paper.size() - before;
        }

        /** A day without its rules: no rule moves a planet, so that looking for places needs no more. */
        void turn() {
            day++;
            for (int i = 0; i < planetCount; i++) {
                planets[i].turn(day);
            }
        }
    }
}
