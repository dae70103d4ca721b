/** Turns a program for a plotter with two axes into pulses for its motors. */
public final class PulsePlotter {
    private static final int RUNNING = 0;
    private static final int ENDED = 100;
    private static final int NOT_A_WORD = 101;
    private static final int UNKNOWN_NUMBER = 102;
    private static final int SECOND_TIME = 103;
    private static final int WRONG_FOR_MODE = 104;
    private static final int NO_FEED = 105;
    private static final int NOT_ON_CIRCLE = 106;
    private static final int OUT_OF_LIMITS = 107;

    private static final int LIMIT = 200;
    private static final int MOST_CODES = 400;

    private static final int RAPID = 0;
    private static final int CLOCKWISE = 2;
    private static final int COUNTERCLOCKWISE = 3;
    private static final int RELATIVE_FLAG = 4;

    private static final int RAPID_PAUSE = 100;
    private static final int MICROSECONDS = 1000000;
    private static final int NO_PULSE = 4;

    private final Text text;
    private final Words words;
    private final Straight straight;
    private final Arc arc;

    private Way way;
    private int done;
    private int left;

    private int nextLineStart;
    private int line;
    private int state;
    private boolean ending;

    private int x;
    private int y;
    private long time;
    private int pulses;
    private int last;

    private int feedRate;
    private int motion;
    private boolean relative;

    public PulsePlotter() {
        text = new Text();
        words = new Words();
        straight = new Straight();
        arc = new Arc();
        way = straight;
        begin();
    }

    public int feed(int w) {
        int appended = text.append(w);
        if (appended >= 0) {
            begin();
        }
        return appended;
    }

    public void clear() {
        text.empty();
        begin();
    }

    public void begin() {
        done = 0;
        left = 0;
        nextLineStart = 0;
        line = 0;
        state = RUNNING;
        ending = false;
        x = 0;
        y = 0;
        time = 0;
        pulses = 0;
        last = NO_PULSE;
        feedRate = 0;
        motion = RAPID;
        relative = false;
    }

    public int run(int n) {
        int made = makePulses(n);
        // There are at most MOST_CODES lines, and one look more finds the end behind them.
        for (int looks = 0; looks <= MOST_CODES && made < n && state == RUNNING; looks++) {
            lookAtNextLine();
            made += makePulses(n - made);
        }
        return made;
    }

    public int state() {
        return state;
    }

    public int x() {
        return x;
    }

    public int y() {
        return y;
    }

    public long time() {
        return time;
    }

    public int pulses() {
        return pulses;
    }

    public int last() {
        return last;
    }

    public int line() {
        return line;
    }

    public int feedRate() {
        return feedRate;
    }

    public int mode() {
        return relative ? motion + RELATIVE_FLAG : motion;
    }

    public int left() {
        return left;
    }

    /** Makes the next pulses of the present move, at most so many, and answers how many. */
    private int makePulses(int most) {
        int count = Math.min(most, left);
        if (count < 1) {
            return 0;
        }
        done += count;
        left -= count;
        x = way.xAfter(done);
        y = way.yAfter(done);
        int dx = x - way.xAfter(done - 1);
        int dy = y - way.yAfter(done - 1);
        last = 3 * (dx + 1) + dy + 1;
        pulses += count;
        time += (long) count * pause();
        return count;
    }

    private int pause() {
        if (motion == RAPID || feedRate < 1) {
            return RAPID_PAUSE;
        }
        return (MICROSECONDS + feedRate - 1) / feedRate;
    }

    private void lookAtNextLine() {
        if (ending || nextLineStart >= text.size()) {
            state = ENDED;
            return;
        }
        int end = text.lineEnd(nextLineStart);
        state = words.read(text, nextLineStart, end);
        nextLineStart = end + 1;
        line++;
        if (state == RUNNING) {
            applySettings();
            state = startMove();
        }
    }

    private void applySettings() {
        if (words.has(Words.F)) {
            feedRate = words.number(Words.F);
        }
        if (words.distances() != Words.NONE) {
            relative = words.distances() == Words.RELATIVE;
        }
        if (words.motion() != Words.NONE) {
            motion = words.motion();
        }
        ending = words.has(Words.M);
    }

    /** Begins the line's move, if it has one, and answers its fault, or RUNNING. */
    private int startMove() {
        boolean hasGoal = words.has(Words.X) || words.has(Words.Y);
        boolean hasCentre = words.has(Words.I) || words.has(Words.J);
        boolean round = motion == CLOCKWISE || motion == COUNTERCLOCKWISE;
        if (round ? hasGoal && !hasCentre : hasCentre) {
            return WRONG_FOR_MODE;
        }
        if (!hasGoal && !hasCentre) {
            return RUNNING;
        }
        if (motion != RAPID && feedRate == 0) {
            return NO_FEED;
        }
        int goalX = goal(Words.X, x);
        int goalY = goal(Words.Y, y);
        return round ? startArc(goalX, goalY) : startStraight(goalX, goalY);
    }

    private int goal(int letter, int present) {
        if (!words.has(letter)) {
            return present;
        }
        return relative ? present + words.number(letter) : words.number(letter);
    }

    private int startStraight(int goalX, int goalY) {
        if (isOutside(goalX) || isOutside(goalY)) {
            return OUT_OF_LIMITS;
        }
        straight.lay(x, y, goalX - x, goalY - y);
        follow(straight);
        return RUNNING;
    }

    private int startArc(int goalX, int goalY) {
        int i = words.number(Words.I);
        int j = words.number(Words.J);
        int centreX = x + i;
        int centreY = y + j;
        int toX = goalX - centreX;
        int toY = goalY - centreY;
        int square = i * i + j * j;
        if (square == 0 || toX * toX + toY * toY != square) {
            return NOT_ON_CIRCLE;
        }
        // w(0) is the farthest that any point of the circle goes along an axis, and it goes so far all four ways.
        int radius = Arc.radius(square);
        if (isOutside(centreX - radius) || isOutside(centreX + radius)
                || isOutside(centreY - radius) || isOutside(centreY + radius)) {
            return OUT_OF_LIMITS;
        }
        arc.lay(centreX, centreY, square);
        arc.join(-i, -j, toX, toY, motion == COUNTERCLOCKWISE);
        follow(arc);
        return RUNNING;
    }

    private void follow(Way next) {
        way = next;
        done = 0;
        left = next.size();
    }

    private static boolean isOutside(int coordinate) {
        return coordinate < -LIMIT || coordinate > LIMIT;
    }

    /** The program's characters. */
    private static final class Text {
        private static final int CODES_IN_INT = 4;
        private static final int NEWLINE = 10;

        private final char[] codes = new char[MOST_CODES];
        private int size = 0;

        int size() {
            return size;
        }

        void empty() {
            size = 0;
        }

        /** Appends the codes packed in w and answers how many, or -1 if there is no room for all. */
        int append(int w) {
            int count = 0;
            while (count < CODES_IN_INT && packedCode(w, count) != 0) {
                count++;
            }
            if (size + count > MOST_CODES) {
                return -1;
            }
            for (int i = 0; i < count; i++) {
                codes[size + i] = (char) packedCode(w, i);
            }
            size += count;
            return count;
        }

        char codeAt(int index) {
            return index >= 0 && index < size ? codes[index] : (char) 0;
        }

        /** Where the line that begins at start ends: at a newline or behind the text. */
        int lineEnd(int start) {
            int end = start;
            while (end < size && codeAt(end) != NEWLINE) {
                end++;
            }
            return end;
        }

        private static int packedCode(int w, int index) {
            return w >> 8 * index & 255;
        }
    }

    /** The words of one line. */
    private static final class Words {
        static final int NONE = -1;
        static final int RELATIVE = 91;
        static final int G = 0;
        static final int M = 1;
        static final int X = 2;
        static final int Y = 3;
        static final int I = 4;
        static final int J = 5;
        static final int F = 6;

        private static final String LETTERS = "GMXYIJF";
        private static final int[] MOST_DIGITS = {2, 2, 4, 4, 4, 4, 5};
        private static final int LETTER_COUNT = 7;
        private static final int BLANK = 32;
        private static final int ABSOLUTE = 90;
        private static final int END_OF_PROGRAM = 2;
        private static final int MOST_FEED = 10000;

        private final char[] row = new char[MOST_CODES];
        private int rowSize = 0;
        private int at = 0;

        private final boolean[] present = new boolean[LETTER_COUNT];
        private final int[] numbers = new int[LETTER_COUNT];
        private int motion = NONE;
        private int distances = NONE;

        boolean has(int letter) {
            return letter >= 0 && letter < LETTER_COUNT && present[letter];
        }

        /** The letter's number, 0 for a letter that is missing. */
        int number(int letter) {
            return has(letter) ? numbers[letter] : 0;
        }

        /** Which of G0 to G3 stands in the line, or NONE. */
        int motion() {
            return motion;
        }

        /** Which of G90 and G91 stands in the line, or NONE. */
        int distances() {
            return distances;
        }

        /** Reads the line from start to before end and answers its first fault, or RUNNING. */
        int read(Text text, int start, int end) {
            forget();
            takeRow(text, start, end);
            int fault = RUNNING;
            // A word has at least one character, so there are no more words than characters.
            for (int count = 0; count < rowSize && at < rowSize && fault == RUNNING; count++) {
                fault = readWord();
            }
            return fault;
        }

        private void forget() {
            for (int letter = 0; letter < LETTER_COUNT; letter++) {
                present[letter] = false;
            }
            motion = NONE;
            distances = NONE;
        }

        /** Blanks count nowhere, so they are dropped before the words are told apart. */
        private void takeRow(Text text, int start, int end) {
            at = 0;
            rowSize = 0;
            for (int i = start; i < end && rowSize < MOST_CODES; i++) {
                if (text.codeAt(i) != BLANK) {
                    row[rowSize] = text.codeAt(i);
                    rowSize++;
                }
            }
        }

        private int readWord() {
            int letter = LETTERS.indexOf(peek());
            if (letter < 0) {
                return NOT_A_WORD;
            }
            at++;
            boolean negative = peek() == '-';
            if (isSigned(letter) && (negative || peek() == '+')) {
                at++;
            }
            int firstDigit = at;
            int value = 0;
            while (at < rowSize && isDigit(peek())) {
                // Wraps around only in a number with too many digits, which is not used.
                value = 10 * value + peek() - '0';
                at++;
            }
            int digits = at - firstDigit;
            if (digits < 1 || digits > MOST_DIGITS[letter]) {
                return NOT_A_WORD;
            }
            return letter == G ? keepG(value) : keep(letter, negative ? -value : value);
        }

        private char peek() {
            return at < rowSize ? row[at] : (char) 0;
        }

        private static boolean isSigned(int letter) {
            return letter == X || letter == Y || letter == I || letter == J;
        }

        private static boolean isDigit(char code) {
            return code >= '0' && code <= '9';
        }

        private int keepG(int value) {
            if (value >= RAPID && value <= COUNTERCLOCKWISE) {
                if (motion != NONE) {
                    return SECOND_TIME;
                }
                motion = value;
                return RUNNING;
            }
            if (value == ABSOLUTE || value == RELATIVE) {
                if (distances != NONE) {
                    return SECOND_TIME;
                }
                distances = value;
                return RUNNING;
            }
            return UNKNOWN_NUMBER;
        }

        private int keep(int letter, int value) {
            if (letter == M && value != END_OF_PROGRAM) {
                return UNKNOWN_NUMBER;
            }
            if (present[letter]) {
                return SECOND_TIME;
            }
            if (letter == F && (value < 1 || value > MOST_FEED)) {
                return NO_FEED;
            }
            present[letter] = true;
            numbers[letter] = value;
            return RUNNING;
        }
    }

    /** The places that a move goes through, told by the number of pulses made. */
    private abstract static class Way {
        abstract int size();

        abstract int xAfter(int k);

        abstract int yAfter(int k);
    }

    private static final class Straight extends Way {
        private int startX = 0;
        private int startY = 0;
        private int dx = 0;
        private int dy = 0;
        private int size = 0;

        void lay(int startX, int startY, int dx, int dy) {
            this.startX = startX;
            this.startY = startY;
            this.dx = dx;
            this.dy = dy;
            size = Math.max(Math.abs(dx), Math.abs(dy));
        }

        int size() {
            return size;
        }

        int xAfter(int k) {
            return startX + part(k, dx);
        }

        int yAfter(int k) {
            return startY + part(k, dy);
        }

        private int part(int k, int whole) {
            return size < 1 ? 0 : Math.floorDiv(2 * k * whole + size, 2 * size);
        }
    }

    /**
     * A way along a circle. The circle's points are numbered counterclockwise. They fall into four sides
     * that are quarter turns of one another, and the right-hand one is (reach[|v|], v) for v from -diagonal
     * on; so one row of reaches tells them all.
     */
    private static final class Arc extends Way {
        private static final int SIDES = 4;

        private final int[] reach = new int[LIMIT + 2];
        private int centreX = 0;
        private int centreY = 0;
        private int diagonal = 0;
        private int side = 1;
        private int first = 0;
        private int turn = 1;
        private int size = 0;

        /** w(0) of the circle; LIMIT + 1 stands for all that is greater, as no such circle is within the limits. */
        static int radius(int square) {
            int w = 0;
            while (w <= LIMIT && (2 * w + 1) * (2 * w + 1) <= 4 * square) {
                w++;
            }
            return w;
        }

        /** Lays out the circle with R = square around the centre. */
        void lay(int centreX, int centreY, int square) {
            this.centreX = centreX;
            this.centreY = centreY;
            diagonal = 0;
            int w = radius(square);
            for (int u = 0; u <= LIMIT && 2 * u * u <= square; u++) {
                while (w > 0 && (2 * w - 1) * (2 * w - 1) > 4 * (square - u * u)) {
                    w--;
                }
                reach[u] = w;
                diagonal = u;
            }
            // With w(m) = m, m + 1, m + 2 a side ends before, at or one behind the diagonal point (w(m), m):
            // the next side has that point, both have their own, or there is a corner between them.
            side = Math.max(1, diagonal + reach[diagonal]);
            reach[diagonal + 1] = diagonal + 1;
        }

        /** Sets the ends of the way, seen from the centre; it goes all the way round if they are the same. */
        void join(int fromX, int fromY, int toX, int toY, boolean counterclockwise) {
            first = numberOf(fromX, fromY);
            turn = counterclockwise ? 1 : -1;
            int around = SIDES * side;
            int between = Math.floorMod(turn * (numberOf(toX, toY) - first), around);
            size = between == 0 ? around : between;
        }

        int size() {
            return size;
        }

        int xAfter(int k) {
            return centreX + xOf(first + turn * k);
        }

        int yAfter(int k) {
            // A quarter turn back brings a point's y to where its x is asked for.
            return centreY + xOf(first + turn * k - side);
        }

        private int xOf(int number) {
            int within = Math.floorMod(number, SIDES * side);
            int v = within % side - diagonal;
            switch (within / side) {
                case 0:
                    return reachAt(v);
                case 1:
                    return -v;
                case 2:
                    return -reachAt(v);
                default:
                    return v;
            }
        }

        private int numberOf(int pointX, int pointY) {
            int across = pointX;
            int along = pointY;
            for (int quarter = 0; quarter < SIDES; quarter++) {
                boolean onSide = along >= -diagonal && along < side - diagonal;
                if (onSide && across == reachAt(along)) {
                    return quarter * side + along + diagonal;
                }
                int turned = -across;
                across = along;
                along = turned;
            }
            return 0;
        }

        private int reachAt(int v) {
            int u = v < 0 ? -v : v;
            return u >= 0 && u < reach.length ? reach[u] : 0;
        }
    }
}
