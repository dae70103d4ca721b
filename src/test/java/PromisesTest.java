/** The promises of the document, each by its number, with the answers that are due written out. */
public final class PromisesTest {
    private static final int ALL = Integer.MAX_VALUE;

    private PromisesTest() {
    }

    /** Runs the whole program on a new object. */
    private static PulsePlotter ran(String program) {
        return ran(program, ALL);
    }

    private static PulsePlotter ran(String program, int n) {
        PulsePlotter plotter = Check.loaded(program);
        plotter.run(n);
        return plotter;
    }

    private static void dueAtFirst(String when, PulsePlotter p) {
        Check.due(when + ": state()", p.state(), 0);
        Check.due(when + ": x()", p.x(), 0);
        Check.due(when + ": y()", p.y(), 0);
        Check.due(when + ": time()", p.time(), 0);
        Check.due(when + ": pulses()", p.pulses(), 0);
        Check.due(when + ": last()", p.last(), 4);
        Check.due(when + ": line()", p.line(), 0);
        Check.due(when + ": feedRate()", p.feedRate(), 0);
        Check.due(when + ": mode()", p.mode(), 0);
        Check.due(when + ": left()", p.left(), 0);
    }

    private static void promise1NewObject() {
        PulsePlotter p = new PulsePlotter();
        dueAtFirst("new", p);
        Check.due("new: run(1)", p.run(1), 0);
        Check.due("new, run(1): state()", p.state(), 100);
        Check.due("new, run(1): line()", p.line(), 0);
        PulsePlotter one = ran("X5");
        PulsePlotter other = new PulsePlotter();
        dueAtFirst("new beside another", other);
        Check.due("the other keeps its place", one.x(), 5);
    }

    private static void promise2Feed() {
        PulsePlotter p = new PulsePlotter();
        Check.due("feed(0)", p.feed(0), 0);
        Check.due("feed of X alone", p.feed('X'), 1);
        Check.due("feed of 1, 2", p.feed('1' | '2' << 8), 2);
        Check.due("feed of 8 behind a 0", p.feed('8' << 8), 0);
        Check.due("feed of Y before a 0", p.feed('Y' | '9' << 16 | '9' << 24), 1);
        Check.due("feed of three before a 0", p.feed('1' | '1' << 8 | ' ' << 16), 3);
        Check.due("fed: run", p.run(ALL), 12);
        Check.due("fed: x()", p.x(), 12);
        Check.due("fed: y()", p.y(), 11);
        Check.due("feed(-1)", new PulsePlotter().feed(-1), 4);
        Check.due("feed with code 128 on top", new PulsePlotter().feed(0x80010101), 4);
        feedBegins();
        feedIsFull();
    }

    private static void feedBegins() {
        PulsePlotter p = ran("G91G1F5X9", 4);
        Check.due("before feed: x()", p.x(), 4);
        p.feed(0);
        dueAtFirst("after feed(0)", p);
        Check.due("run after feed(0)", p.run(ALL), 9);
        p.feed('9');
        dueAtFirst("after feed of a 9", p);
        Check.due("run after feed of a 9", p.run(ALL), 99);
    }

    private static void feedIsFull() {
        PulsePlotter p = new PulsePlotter();
        Check.load(p, "X7");
        for (int size = 2; size < 398; size += 4) {
            Check.due("feed of blanks at " + size, p.feed(0x20202020), 4);
        }
        Check.due("full but for 2: run(3)", p.run(3), 3);
        Check.due("full but for 2: feed of 4", p.feed(0x31313131), -1);
        Check.due("full but for 2: feed of 3", p.feed(0x00313131), -1);
        Check.due("nothing is done: pulses()", p.pulses(), 3);
        Check.due("nothing is done: left()", p.left(), 4);
        Check.due("full but for 2: feed of 2", p.feed('0' | ' ' << 8), 2);
        dueAtFirst("after feed of the last 2", p);
        Check.due("full: run", p.run(ALL), 70);
        Check.due("full: feed of 1", p.feed('0'), -1);
        Check.due("full, nothing is done: state()", p.state(), 100);
        Check.due("full: feed(0)", p.feed(0), 0);
        dueAtFirst("full, after feed(0)", p);
        Check.due("full, run again", p.run(ALL), 70);
        p.clear();
        Check.due("feed after clear of a full text", p.feed('X' | '2' << 8), 2);
        Check.due("run after clear of a full text", p.run(ALL), 2);
    }

    private static void promise3Clear() {
        PulsePlotter p = ran("G91G1F5X9Y-3", 4);
        p.clear();
        dueAtFirst("after clear", p);
        Check.due("after clear: run", p.run(3), 0);
        Check.due("after clear, run: state()", p.state(), 100);
        Check.due("after clear, run: line()", p.line(), 0);
        p.clear();
        dueAtFirst("after a second clear", p);
        Check.load(p, "Y-2");
        Check.due("new text after clear: run", p.run(ALL), 2);
        Check.due("new text after clear: y()", p.y(), -2);
        Check.due("new text after clear: x()", p.x(), 0);
    }

    private static void promise4Begin() {
        PulsePlotter p = ran("G91G3F5X10I5\nX1", 7);
        p.begin();
        dueAtFirst("begin within an arc", p);
        p.run(ALL);
        Check.due("before begin: state()", p.state(), 104);
        p.begin();
        dueAtFirst("begin after a fault", p);
        PulsePlotter ended = ran("X3M2\nX5");
        ended.begin();
        dueAtFirst("begin after M", ended);
        Check.due("after begin: run(2)", ended.run(2), 2);
        Check.due("after begin: left()", ended.left(), 1);
        Check.due("after begin: run", ended.run(ALL), 1);
        Check.due("after begin: state()", ended.state(), 100);
        PulsePlotter fresh = new PulsePlotter();
        fresh.begin();
        dueAtFirst("begin without a text", fresh);
    }

    private static void promise5Run() {
        PulsePlotter p = Check.loaded("X3\nY2\n?");
        Check.due("run(0)", p.run(0), 0);
        Check.due("run(-1)", p.run(-1), 0);
        Check.due("run(least)", p.run(Integer.MIN_VALUE), 0);
        dueAtFirst("after run of none", p);
        Check.due("run(3)", p.run(3), 3);
        Check.due("behind the first move: line()", p.line(), 1);
        Check.due("run(0) between moves", p.run(0), 0);
        Check.due("run(0) looks at no line", p.line(), 1);
        Check.due("run(1)", p.run(1), 1);
        Check.due("in the second move: line()", p.line(), 2);
        Check.due("run(1) to the end of the move", p.run(1), 1);
        Check.due("the fault is not come to: state()", p.state(), 0);
        Check.due("run(0) before the fault", p.run(0), 0);
        Check.due("the fault is still not come to: state()", p.state(), 0);
        Check.due("run(1) into the fault", p.run(1), 0);
        Check.due("the fault is come to: state()", p.state(), 101);
        Check.due("run behind the fault", p.run(ALL), 0);
        Check.due("behind the fault: pulses()", p.pulses(), 5);
        PulsePlotter few = Check.loaded("X3\n\n   \nG0\nX3\nY1");
        Check.due("fewer pulses than asked for", few.run(100), 4);
        Check.due("behind the end", few.run(100), 0);
        runOverManyLines();
    }

    private static void runOverManyLines() {
        PulsePlotter empty = new PulsePlotter();
        for (int i = 0; i < 100; i++) {
            empty.feed(0x0a0a0a0a);
        }
        Check.due("400 empty lines: run(1)", empty.run(1), 0);
        Check.due("400 empty lines: state()", empty.state(), 100);
        Check.due("400 empty lines: line()", empty.line(), 400);
        PulsePlotter circles = Check.loaded("F1G2I99\n" + "I99\n".repeat(98));
        Check.due("99 circles: run", circles.run(ALL), 99 * 560);
        Check.due("99 circles: time()", circles.time(), 99L * 560 * 1000000);
        Check.due("99 circles: line()", circles.line(), 99);
    }

    private static void dueState(String program, int state) {
        PulsePlotter p = Check.loaded(program);
        Check.due(Check.show(program) + ": state() before run", p.state(), 0);
        p.run(ALL);
        Check.due(Check.show(program) + ": state()", p.state(), state);
    }

    private static void promise6State() {
        PulsePlotter p = ran("X2", 2);
        Check.due("all pulses made, the end not come to: state()", p.state(), 0);
        p.run(1);
        Check.due("the end come to: state()", p.state(), 100);
        PulsePlotter m = ran("X2M2", 2);
        Check.due("M not come to: state()", m.state(), 0);
        m.run(1);
        Check.due("M come to: state()", m.state(), 100);
        for (String good : new String[] {"", "\n", " ", "G0", "G1", "G 9 1", "M2", "M02", "G2G90F1", "G00G91X+0001",
            "X- 1 2", "F00001", "F10000", "F1 0 0 0 0", "X1M2\n?", "M2\nX999", "M2X1", "X200Y-200",
            "G1X1F1", "G03F9M2", "G2F1I5\nG0X1", "X-0Y+0", "G1F1\nG0\nX1\nG1\nX2"}) {
            dueState(good, 100);
        }
        wordFaults();
        machineFaults();
    }

    private static void wordFaults() {
        for (String bad : new String[] {"x1", "g0", "Z1", "1", "+", "X", "X+", "X-", "X+-1", "X--1", "X1-", "X1.5",
            "X12345", "X00001", "Y1 2 3 4 5", "I", "J12345", "G", "M", "F", "G+1", "G-1", "M+2", "F+1", "F-1", "G001",
            "M002", "G100", "F000001", "F123456", "\t", "X1\r", "X1\u00a0", "\u00ff", "\u0001", "X1Y", "G0 G", "GX1",
            "X\n1", "X1X", "X/", "X:", "X1;", "@", "(X1)"}) {
            dueState(bad, 101);
        }
        for (String bad : new String[] {"G4", "G04", "G5", "G9", "G10", "G89", "G92", "G99", "M0", "M1", "M3", "M00",
            "M20", "M99", "G4?", "G1G4", "G90G92", "M2M3", "M3M", "X1G7X1", "G4F0"}) {
            dueState(bad, 102);
        }
        for (String bad : new String[] {"X1X1", "X1Y1X2", "Y0Y0", "I1I1", "J1J1", "F1F1", "F1F0", "F1F10001", "M2M2",
            "G0G0", "G0G1", "G1G01", "G2G3", "G3X1G0", "G90G90", "G90G91", "G91G1G90", "X1X1?", "X1X2G4"}) {
            dueState(bad, 103);
        }
        for (String bad : new String[] {"F0", "F00000", "F10001", "F99999", "F0F1", "F0?", "F0G4", "G1X1F0"}) {
            dueState(bad, 105);
        }
        for (String bad : new String[] {"X1X99999", "F1F123456", "G0G000", "M2M"}) {
            dueState(bad, 101);
        }
    }

    private static void machineFaults() {
        for (String bad : new String[] {"I1", "J0", "X1I1", "G1J1", "G1F1X1Y1I0", "G2X1", "G3Y1", "G2F1X1Y1",
            "G2F1\nX0", "G2F1I1\nG1I1", "G2F1X999", "I9999"}) {
            dueState(bad, 104);
        }
        for (String bad : new String[] {"G1X1", "G1X0", "G2I1", "G3J1", "G2I0", "G1X999", "G3X1I9999", "G1\nY1"}) {
            dueState(bad, 105);
        }
        for (String bad : new String[] {"G2F1I0", "G3F1I0J0", "G2F1X1I0", "G2F1X1I1", "G2F1X1Y1J0", "G3F1X9I5",
            "G3F1X11I5", "G2F1I9999X1", "G91G2F1X5Y4I5", "G2F1I9999J9999X-9999Y-9999"}) {
            dueState(bad, 106);
        }
        for (String bad : new String[] {"X201", "X-201", "Y201", "Y-201", "X9999", "G1F1Y-9999", "G91X200\nX1",
            "Y-200\nG91Y-1", "G2F1I101", "G3F1I-101", "G2F1J101", "G3F1J-101", "G2F1I9999J9999",
            "G2F1X9998I4999", "X120\nG2F1I41", "Y200\nG2F1I1", "G2F1X1Y1I1J0\nI-150",
            "X142Y142\nG2F1I-142J-142", "X195\nG2F1I2J3", "X195\nG2F1I2J4", "Y-195\nG2F1I3J-2"}) {
            dueState(bad, 107);
        }
        for (String good : new String[] {"G2F1I100", "G3F1J-100", "X-200\nG2F1I200", "Y200\nG3F1J-200",
            "X200\nG2F1X-200I-200", "X10\nG3F1X200I95", "X141Y142\nG2F1I-141J-142",
            "X194\nG2F1I2J3", "X194\nG2F1I2J4", "Y-194\nG2F1I3J-2"}) {
            dueState(good, 100);
        }
    }

    /** Compares the places, at one go and pulse by pulse, told as "x,y x,y ..". */
    private static void duePlaces(String program, int skip, String places) {
        int k = skip;
        PulsePlotter stepped = ran(program, skip);
        for (String place : places.split(" ")) {
            k++;
            String[] parts = place.split(",");
            PulsePlotter p = ran(program, k);
            Check.due(Check.show(program) + ", run(" + k + "): x()", p.x(), Integer.parseInt(parts[0]));
            Check.due(Check.show(program) + ", run(" + k + "): y()", p.y(), Integer.parseInt(parts[1]));
            Check.due(Check.show(program) + ", run(" + k + "): pulses()", p.pulses(), k);
            Check.due(Check.show(program) + " by 1: run(1)", stepped.run(1), 1);
            Check.due(Check.show(program) + " by 1, " + k + " pulses: x()", stepped.x(), Integer.parseInt(parts[0]));
            Check.due(Check.show(program) + " by 1, " + k + " pulses: y()", stepped.y(), Integer.parseInt(parts[1]));
        }
        PulsePlotter p = ran(program);
        Check.due(Check.show(program) + ": pulses() in all", p.pulses(), k);
    }

    private static void promises7And8Place() {
        duePlaces("X4Y2", 0, "1,1 2,1 3,2 4,2");
        duePlaces("X-4Y-2", 0, "-1,0 -2,-1 -3,-1 -4,-2");
        duePlaces("X2Y-5", 0, "0,-1 1,-2 1,-3 2,-4 2,-5");
        duePlaces("X-1Y2", 0, "0,1 -1,2");
        duePlaces("X1\nX1\nY1\nX1Y1\nX0Y0", 0, "1,0 1,1 0,0");
        duePlaces("G91X2\nX-1\nY1", 0, "1,0 2,0 1,0 1,1");
        duePlaces("X2G91\nG90X1\nG91Y2", 0, "1,0 2,0 1,0 1,1 1,2");
        // R = 1, 2 and 4, both ways, and R = 49 with a corner between the sides.
        duePlaces("F1G3I1", 0, "1,-1 2,0 1,1 0,0");
        duePlaces("F1G2I1", 0, "1,1 2,0 1,-1 0,0");
        duePlaces("F1G3I1J1", 0, "1,0 2,0 2,1 2,2 1,2 0,2 0,1 0,0");
        duePlaces("F1G2J-2", 0, "1,0 2,-1 2,-2 2,-3 1,-4 0,-4 -1,-4 -2,-3 -2,-2 -2,-1 -1,0 0,0");
        duePlaces("F1G3X-7Y7I-7", 0, "0,1 0,2 -1,3 -1,4 -2,5 -3,6 -4,6 -5,7 -6,7 -7,7");
        duePlaces("F1G2X-7Y-7I-7", 0, "0,-1 0,-2 -1,-3 -1,-4 -2,-5 -3,-6 -4,-6 -5,-7 -6,-7 -7,-7");
        duePlaces("X5\nG91F1G3X-2Y4I-5", 5, "5,1 5,2 4,3 3,4");
        duePlaces("X3Y4\nG2F1X5Y0I-3J-4", 4, "4,3 5,2 5,1 5,0");
        PulsePlotter p = ran("X3Y-4\nX201");
        Check.due("place after a fault: x()", p.x(), 3);
        Check.due("place after a fault: y()", p.y(), -4);
    }

    private static void promise9Time() {
        Check.due("no pulse: time()", ran("G1F7", ALL).time(), 0);
        Check.due("first pulse, mode 0: time()", ran("X5F7", 1).time(), 100);
        Check.due("first pulse, mode 1: time()", ran("G1X5F10", 1).time(), 100000);
        Check.due("F1: time()", ran("G1X5F1").time(), 5000000);
        Check.due("F3, rounded up: time()", ran("G1X5F3", 2).time(), 666668);
        Check.due("F7, rounded up: time()", ran("G1X1F7").time(), 142858);
        Check.due("F9999, rounded up: time()", ran("G1X1F9999").time(), 101);
        Check.due("F10000: time()", ran("G1X1F10000").time(), 100);
        Check.due("arc of 4 pulses: time()", ran("G2F6I1").time(), 4 * 166667);
        Check.due("arc of 4 pulses, counterclockwise: time()", ran("G3F6I1").time(), 4 * 166667);
        Check.due("feeds one after another: time()", ran("F9G1X2\nX4F2\nG0X5\nG1X6").time(),
                222224 + 1000000 + 100 + 500000);
        Check.due("time stays after a fault: time()", ran("X5\nG1F1X6?").time(), 500);
        Check.due("more than an int: time()", ran("F1G2I-99\nI-99\nI-99\nI-99").time(), 2240000000L);
    }

    private static void promise10Pulses() {
        PulsePlotter p = Check.loaded("X3\nG1F1Y4\nG3J1");
        Check.due("before run: pulses()", p.pulses(), 0);
        p.run(2);
        Check.due("run(2): pulses()", p.pulses(), 2);
        p.run(3);
        Check.due("run(3): pulses()", p.pulses(), 5);
        p.run(ALL);
        Check.due("run to the end: pulses()", p.pulses(), 11);
        p.run(5);
        Check.due("run behind the end: pulses()", p.pulses(), 11);
        p.begin();
        Check.due("begin: pulses()", p.pulses(), 0);
        p.run(1);
        Check.due("begin, run(1): pulses()", p.pulses(), 1);
    }

    private static void promise11Last() {
        Check.due("no pulse: last()", ran("X0").last(), 4);
        for (int dx = -1; dx <= 1; dx++) {
            for (int dy = -1; dy <= 1; dy++) {
                String program = "X" + dx + "Y" + dy;
                Check.due(program + ": last()", ran(program).last(), 3 * (dx + 1) + dy + 1);
            }
        }
        Check.due("up, then left: last()", ran("Y2\nX-2").last(), 1);
        Check.due("first of a move: last()", ran("X3\nY-3", 4).last(), 3);
        Check.due("last of a move: last()", ran("X3\nY-3", 3).last(), 7);
        Check.due("arc: last()", ran("F1G3I1", 1).last(), 6);
        Check.due("arc, last pulse: last()", ran("F1G3I1", 4).last(), 0);
        Check.due("stays after a fault: last()", ran("X3\nI1").last(), 7);
        Check.due("stays after the end: last()", ran("X3\nY-1\nM2").last(), 3);
    }

    private static void dueLine(String program, int n, int line) {
        Check.due(Check.show(program) + ", run(" + n + "): line()", ran(program, n).line(), line);
    }

    private static void promise12Line() {
        dueLine("X1", 0, 0);
        dueLine("X2\nY1", 1, 1);
        dueLine("X2\nY1", 2, 1);
        dueLine("X2\nY1", 3, 2);
        dueLine("X2\n\n \nY1\n\n\n", 3, 4);
        dueLine("X2\n\n \nY1\n\n\n", 4, 6);
        dueLine("\nX2\nX2\nX3", 1, 2);
        dueLine("\nX2\nX2\nX3", 3, 4);
        dueLine("X1\n", ALL, 1);
        dueLine("X1\n ", ALL, 2);
        dueLine("\n", ALL, 1);
        dueLine("\n\n", ALL, 2);
        dueLine("", ALL, 0);
        dueLine("X1\nM2\nX2\nX3", ALL, 2);
        dueLine("X1\nX2M2\nX3\n", ALL, 2);
        dueLine("X1\nG0\nX1?\nX3", 1, 1);
        dueLine("X1\nG0\nX1?\nX3", 2, 3);
        dueLine("X1\n\nX999\nX3", 2, 3);
        dueLine("G2F1I1\nG0\nG2X1", 5, 3);
    }

    private static void dueFeed(String program, int n, int feed) {
        Check.due(Check.show(program) + ", run(" + n + "): feedRate()", ran(program, n).feedRate(), feed);
    }

    private static void promise13FeedRate() {
        dueFeed("F5X1", 0, 0);
        dueFeed("X1", ALL, 0);
        dueFeed("F5X1", 1, 5);
        dueFeed("F1\nF10000", ALL, 10000);
        dueFeed("F00012X1\nX2", 2, 12);
        dueFeed("X1F3\nX2F4", 1, 3);
        dueFeed("F3\nF4I1", ALL, 4);
        dueFeed("F3\nF4X999", ALL, 4);
        dueFeed("F3\nF4G2I0", ALL, 4);
        dueFeed("F3\nF4G2I200", ALL, 4);
        dueFeed("F3\nF4X", ALL, 3);
        dueFeed("F3\nF4G4", ALL, 3);
        dueFeed("F3\nF4X1X1", ALL, 3);
        dueFeed("F3\nF4F5", ALL, 3);
        dueFeed("F3\nF0", ALL, 3);
        dueFeed("F3\nF10001", ALL, 3);
        dueFeed("F3M2\nF4", ALL, 3);
    }

    private static void dueMode(String program, int n, int mode) {
        Check.due(Check.show(program) + ", run(" + n + "): mode()", ran(program, n).mode(), mode);
    }

    private static void promise14Mode() {
        dueMode("G1G91", 0, 0);
        for (int motion = 0; motion <= 3; motion++) {
            dueMode("G" + motion, ALL, motion);
            dueMode("G0" + motion + "G91", ALL, motion + 4);
            dueMode("G91\nG" + motion + "\n\nG90", ALL, motion);
            dueMode("G3G91\nG" + motion, ALL, motion + 4);
        }
        dueMode("X1G91\nG90G1", 1, 4);
        dueMode("G1X1", ALL, 1);
        dueMode("G91G2I1", ALL, 6);
        dueMode("G91G2X1", ALL, 6);
        dueMode("G91G1F1X999", ALL, 5);
        dueMode("G3F1I0", ALL, 3);
        dueMode("G91G1F0", ALL, 0);
        dueMode("G91G1?", ALL, 0);
        dueMode("G91G1M3", ALL, 0);
        dueMode("G91G1G90", ALL, 0);
    }

    private static void dueLeft(String program, int n, int left) {
        Check.due(Check.show(program) + ", run(" + n + "): left()", ran(program, n).left(), left);
    }

    private static void promise15Left() {
        dueLeft("X9", 0, 0);
        dueLeft("X9", 1, 8);
        dueLeft("X9", 8, 1);
        dueLeft("X9\nY3", 9, 0);
        dueLeft("X9\nY3", 10, 2);
        dueLeft("X3Y-7", 1, 6);
        dueLeft("X-200\nX200Y1", 201, 399);
        dueLeft("F1G3I1", 1, 3);
        dueLeft("F1G3X2I1", 1, 1);
        dueLeft("F1G2I100", 1, 4 * 141 - 1);
        dueLeft("F1G3X100Y100I100", 1, 3 * 141 - 1);
        dueLeft("F1G2X100Y100I100", 1, 141 - 1);
        dueLeft("X-200\nF1G2I200", 201, 1131);
        dueLeft("X9", ALL, 0);
        dueLeft("X9\nG2F1I900", ALL, 0);
        dueLeft("F1G2I5\nX1", ALL, 0);
        dueLeft("F1G2I5\nI200", ALL, 0);
    }

    public static void main(String[] args) {
        promise1NewObject();
        promise2Feed();
        promise3Clear();
        promise4Begin();
        promise5Run();
        promise6State();
        promises7And8Place();
        promise9Time();
        promise10Pulses();
        promise11Last();
        promise12Line();
        promise13FeedRate();
        promise14Mode();
        promise15Left();
        Check.finish();
    }
}
