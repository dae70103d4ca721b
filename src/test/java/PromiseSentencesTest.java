/** The promises 1 to 15, each by its number and each of their sentences by its words. */
public final class PromiseSentencesTest {
    private static final int ALL = Check.ALL;

    /** Programs with a number of pulses behind which an object is in one of all the kinds of places. */
    private static final String[] PROGRAMS = {"", "X5", "F5G91G1X9Y-3\nX1", "F5G91G1X9Y-3\nX1", "G91G3F5X10I5\nX1",
        "X3\nG2F7I99\n?", "X3\nG2F7I99\n?", "X3M2\nX5", "F7G3\n\nG91\n", "G1F3X-200Y200\nX201"};
    private static final int[] PULSES = {1, 0, 4, 9, 7, 3, ALL, ALL, 1, ALL};

    private PromiseSentencesTest() {
    }

    private static void objectIsUsedFor512Calls() {
        Check.sentence("An object is used for at most 512 calls after it has been made");
        PulsePlotter p = new PulsePlotter();
        String program = "F1G2I99\n" + "I99\n".repeat(98);
        Check.load(p, program);
        int calls = 100;
        while (calls < 510) {
            calls++;
            Check.due("call " + calls + ": run(100)", p.run(100), 100);
        }
        Check.due("call 511: pulses()", p.pulses(), 41000);
        Check.due("call 512: time()", p.time(), 41000000000L);
        PulsePlotter cleared = new PulsePlotter();
        for (int call = 1; call < 510; call += 3) {
            cleared.clear();
            Check.due("call " + (call + 1) + ": feed", cleared.feed(Check.pack("X-9 ", 0)), 4);
            Check.due("call " + (call + 2) + ": run(9)", cleared.run(9), 9);
        }
        Check.due("call 511: run(1)", cleared.run(1), 0);
        Check.due("call 512: x()", cleared.x(), -9);
    }

    private static void promise1() {
        Check.sentence("1: No text");
        PulsePlotter p = new PulsePlotter();
        Check.due("new: run(1)", p.run(1), 0);
        Check.due("new, run(1)", Check.standing(p),
                "state 100 at 0,0 time 0 pulses 0 last 4 line 0 feed 0 mode 0 left 0");
        PulsePlotter fed = Check.ran("X5");
        PulsePlotter other = new PulsePlotter();
        Check.due("new beside another: run", other.run(ALL), 0);
        Check.due("the other has its text: x()", fed.x(), 5);

        Check.sentence("1: the machine as said at first, before line 1");
        Check.dueAtFirst("new", new PulsePlotter());
    }

    private static void promise2CodesBeforeZero() {
        Check.sentence("2: Appends to the text the codes w & 255, w >> 8 & 255, w >> 16 & 255, w >> 24 & 255,"
                + " up to before the first that is 0");
        PulsePlotter p = new PulsePlotter();
        Check.due("feed of four", p.feed('X' | '1' << 8 | '2' << 16 | 'Y' << 24), 4);
        Check.due("feed of three", p.feed('1' | '3' << 8 | '\n' << 16), 3);
        Check.due("feed of two", p.feed('X' | '0' << 8), 2);
        Check.due("feed of one", p.feed('Y'), 1);
        Check.due("feed of none", p.feed(0), 0);
        Check.due("feed of one, what stands behind the 0 is left out", p.feed('1' | '8' << 16 | '8' << 24), 1);
        Check.due("feed of two, as before", p.feed('0' | ' ' << 8 | '8' << 24), 2);
        Check.due("feed of none, as before", p.feed('8' << 8 | '8' << 16 | '8' << 24), 0);
        Check.due("fed: run", p.run(ALL), 25);
        Check.due("fed: x()", p.x(), 0);
        Check.due("fed: y()", p.y(), 10);
        Check.due("feed(-1)", new PulsePlotter().feed(-1), 4);
        Check.due("feed(least)", new PulsePlotter().feed(Integer.MIN_VALUE), 0);
        Check.due("feed(greatest)", new PulsePlotter().feed(Integer.MAX_VALUE), 4);
        Check.due("feed with code 128 on top", new PulsePlotter().feed(0x80010101), 4);
        Check.due("feed with a 0 below code 128", new PulsePlotter().feed(0x80000101), 2);
    }

    private static void promise2Begins() {
        Check.sentence("2: and does what begin() does (also when that is none)");
        for (int k = 0; k < PROGRAMS.length; k++) {
            PulsePlotter p = Check.ran(PROGRAMS[k], PULSES[k]);
            int made = p.pulses();
            Check.due(Check.show(PROGRAMS[k]) + ": feed(0)", p.feed(0), 0);
            Check.dueAtFirst(Check.show(PROGRAMS[k]) + ", feed(0)", p);
            Check.due(Check.show(PROGRAMS[k]) + ": run after feed(0)", p.run(PULSES[k]), made);
            Check.due(Check.show(PROGRAMS[k]) + ": feed(256)", p.feed(256), 0);
            Check.dueAtFirst(Check.show(PROGRAMS[k]) + ", feed(256)", p);
            Check.due(Check.show(PROGRAMS[k]) + ": feed of a newline", p.feed('\n'), 1);
            Check.dueAtFirst(Check.show(PROGRAMS[k]) + ", feed of a newline", p);
            Check.due(Check.show(PROGRAMS[k]) + ": run after feed of a newline", p.run(PULSES[k]), made);
        }
        PulsePlotter p = Check.ran("X9", 4);
        p.feed('9');
        Check.due("run after feed of a 9", p.run(ALL), 99);
    }

    private static void promise2Full() {
        Check.sentence("2: how many were appended; -1, and nothing is done, if there would be more than 400");
        for (int size = 396; size <= 400; size++) {
            for (int count = 0; count <= 4; count++) {
                feedNearTheEnd(size, count);
            }
        }
        PulsePlotter p = Check.ran("X7" + " ".repeat(398));
        p.clear();
        Check.due("feed after clear of a full text", p.feed(Check.pack("X2", 0)), 2);
        Check.due("run after clear of a full text", p.run(ALL), 2);
    }

    /** Feeds so many codes to a text of so many, in the middle of a move, behind the end and behind a fault. */
    private static void feedNearTheEnd(int size, int count) {
        String[] programs = {"G91G1F5X-5", "Y5", "X5\n?\n"};
        int[] pulses = {3, ALL, ALL};
        for (int k = 0; k < programs.length; k++) {
            String filled = programs[k] + " ".repeat(size - programs[k].length());
            PulsePlotter p = Check.ran(filled, pulses[k]);
            String before = Check.standing(p);
            String when = Check.show(programs[k]) + " filled up to " + size + ", feed of " + count;
            boolean fits = size + count <= 400;
            Check.due(when, p.feed(Check.pack("3  ?".substring(4 - count), 0)), fits ? count : -1);
            if (fits) {
                Check.dueAtFirst(when, p);
            } else {
                Check.due(when, Check.standing(p), before);
                // What was there is there, and no more.
                p.begin();
                p.run(pulses[k]);
                Check.due(when + ", begun anew", Check.standing(p), before);
                int blanks = Check.pack("    ".substring(size - 396), 0);
                Check.due(when + ", room that is left", p.feed(blanks), 400 - size);
            }
        }
    }

    private static void promise3() {
        Check.sentence("3: The text is empty");
        for (int k = 0; k < PROGRAMS.length; k++) {
            PulsePlotter p = Check.ran(PROGRAMS[k], PULSES[k]);
            p.clear();
            Check.due(Check.show(PROGRAMS[k]) + ", clear: run", p.run(ALL), 0);
            Check.due(Check.show(PROGRAMS[k]) + ", clear, run", Check.standing(p),
                    "state 100 at 0,0 time 0 pulses 0 last 4 line 0 feed 0 mode 0 left 0");
            Check.load(p, "Y-2");
            Check.due(Check.show(PROGRAMS[k]) + ", clear, a new text: run", p.run(ALL), 2);
            Check.due(Check.show(PROGRAMS[k]) + ", clear, a new text", Check.standing(p),
                    "state 100 at 0,-2 time 200 pulses 2 last 3 line 1 feed 0 mode 0 left 0");
        }

        Check.sentence("3: and what begin() does");
        for (int k = 0; k < PROGRAMS.length; k++) {
            PulsePlotter p = Check.ran(PROGRAMS[k], PULSES[k]);
            p.clear();
            Check.dueAtFirst(Check.show(PROGRAMS[k]) + ", clear", p);
            p.clear();
            Check.dueAtFirst(Check.show(PROGRAMS[k]) + ", clear twice", p);
        }
    }

    private static void promise4() {
        Check.sentence("4: The machine is as at first, before line 1; no pulse was made.");
        for (int k = 0; k < PROGRAMS.length; k++) {
            PulsePlotter p = Check.ran(PROGRAMS[k], PULSES[k]);
            String before = Check.standing(p);
            p.begin();
            Check.dueAtFirst(Check.show(PROGRAMS[k]) + ", begin", p);
            p.begin();
            Check.dueAtFirst(Check.show(PROGRAMS[k]) + ", begin twice", p);
            p.run(PULSES[k]);
            Check.due(Check.show(PROGRAMS[k]) + ", begun anew", Check.standing(p), before);
        }
        PulsePlotter ended = Check.ran("X3M2\nX5");
        ended.begin();
        Check.due("M, begin: run(2)", ended.run(2), 2);
        Check.due("M, begin: left()", ended.left(), 1);
    }

    private static void promise5None() {
        Check.sentence("5: none if n is below 1: then no line is looked at");
        for (int k = 0; k < PROGRAMS.length; k++) {
            PulsePlotter p = Check.loaded(PROGRAMS[k]);
            for (int round = 0; round < 2; round++) {
                String before = Check.standing(p);
                for (int n : new int[] {0, -1, -400, Integer.MIN_VALUE}) {
                    Check.due(Check.show(PROGRAMS[k]) + ": run(" + n + ")", p.run(n), 0);
                    Check.due(Check.show(PROGRAMS[k]) + ", run(" + n + ")", Check.standing(p), before);
                }
                p.run(PULSES[k]);
            }
        }
    }

    private static void promise5HowMany() {
        Check.sentence("5: Makes n pulses .. fewer if the program ends or a fault is come to: how many.");
        for (int n = 1; n <= 9; n++) {
            Check.due("7 pulses and the end: run(" + n + ")", Check.loaded("X3\n\nX1\nY2").run(n), Math.min(n, 7));
            Check.due("7 pulses and M: run(" + n + ")", Check.loaded("X3\nX-1M2\nY2").run(n), Math.min(n, 7));
            Check.due("7 pulses and a fault: run(" + n + ")", Check.loaded("X3\nX-1\nY2X").run(n), Math.min(n, 7));
            Check.due("an arc: run(" + n + ")", Check.loaded("X3\nF1G2I1\nG1").run(n), Math.min(n, 7));
        }
        Check.due("greatest n: run", Check.loaded("X3\n\nX1\nY2").run(Integer.MAX_VALUE), 7);
        Check.due("the end at once: run(1)", Check.loaded("M2\nX1").run(1), 0);
        Check.due("a fault at once: run(1)", Check.loaded("?\nX1").run(1), 0);
        PulsePlotter p = Check.loaded("X3\n\nX1\nY2");
        Check.due("run(2)", p.run(2), 2);
        Check.due("run(4) over two lines", p.run(4), 4);
        Check.due("run(4) to the end", p.run(4), 1);
        Check.due("run(4) behind the end", p.run(4), 0);
        Check.due("run(greatest) behind the end", p.run(ALL), 0);
        PulsePlotter empty = Check.loaded("\n".repeat(400));
        Check.due("400 empty lines: run(1)", empty.run(1), 0);
        Check.due("400 empty lines, run(1): state()", empty.state(), 100);
        Check.due("398 empty lines and a move: run(1)", Check.loaded("\n".repeat(398) + "X3").run(1), 1);
        Check.due("133 moves: run", Check.loaded("X1\nX0\n".repeat(66) + "X1").run(ALL), 133);
        Check.due("99 circles: run", Check.loaded("F1G2I99\n" + "I99\n".repeat(98)).run(ALL), 99 * 560);
    }

    private static void promise5NextLine() {
        Check.sentence("5: Behind a move the next line is looked at when one more pulse is to be made, not before.");
        for (String next : new String[] {"?", "X999", "F9G91G1Y1", "M2", "F9G91", "\n\nG4", "G2I1", "F9G91Y1"}) {
            PulsePlotter p = Check.loaded("X3\n" + next);
            Check.due(Check.show(next) + " behind it: run(3)", p.run(3), 3);
            Check.due(Check.show(next) + " behind it, run(3)", Check.standing(p),
                    "state 0 at 3,0 time 300 pulses 3 last 7 line 1 feed 0 mode 0 left 0");
        }
        PulsePlotter p = Check.ran("X3\nF9G91G1Y2", 4);
        Check.due("one more pulse", Check.standing(p),
                "state 0 at 3,1 time 111412 pulses 4 last 5 line 2 feed 9 mode 5 left 1");
        PulsePlotter fault = Check.ran("X3\nF9G91G1Y999", 4);
        Check.due("one more pulse, and a fault", Check.standing(fault),
                "state 107 at 3,0 time 300 pulses 3 last 7 line 2 feed 9 mode 5 left 0");
        Check.due("within a move: line()", Check.ran("X3\n?", 2).line(), 1);
        Check.due("behind an arc: state()", Check.ran("F1G2I1\n?", 4).state(), 0);
        Check.due("behind an arc, one more: state()", Check.ran("F1G2I1\n?", 5).state(), 101);
    }

    private static void promise6() {
        Check.sentence("6: 0 as long as neither the program's end nor a fault was come to");
        for (String program : new String[] {"X3", "X3M2", "X3\n?", "X3\nM2", "\nX3\nX999", "?", "M2", ""}) {
            PulsePlotter p = Check.loaded(program);
            Check.due(Check.show(program) + ": state()", p.state(), 0);
        }
        for (int n = 0; n <= 3; n++) {
            Check.due("X3, run(" + n + "): state()", Check.ran("X3", n).state(), 0);
            Check.due("X3M2, run(" + n + "): state()", Check.ran("X3M2", n).state(), 0);
            Check.due("a fault behind, run(" + n + "): state()", Check.ran("X3\n?", n).state(), 0);
        }

        Check.sentence("6: then 100, or 101 .. 107 for the fault");
        String[] programs = {"X3", "?", "G4", "X1X1", "I1", "F0", "F1G2I0", "X201"};
        for (int k = 0; k < programs.length; k++) {
            Check.dueState(100 + k, programs[k], "Y3\n" + programs[k], "\n" + programs[k] + "\n");
        }
        Check.dueState(100, "X3M2", "M2", "", "\n", "X3\n");
        Check.dueState(105, "G1X1");
    }

    private static void promises7And8() {
        Check.sentence("7 and 8: Where the machine is.");
        Check.duePlaces("X1\nX1\nY1\nX1Y1\nX0Y0", 0, "1,0 1,1 0,0");
        Check.duePlaces("G91X2\nX-1\nY1", 0, "1,0 2,0 1,0 1,1");
        Check.duePlaces("X2G91\nG90X1\nG91Y2", 0, "1,0 2,0 1,0 1,1 1,2");
        Check.duePlaces("X2Y-5", 0, "0,-1 1,-2 1,-3 2,-4 2,-5");
        Check.dueEnd("X200Y-200", 200, -200);
        Check.dueEnd("X-200Y200", -200, 200);
        PulsePlotter p = Check.ran("X3Y-4\nX201");
        Check.due("place behind a fault: x()", p.x(), 3);
        Check.due("place behind a fault: y()", p.y(), -4);
    }

    private static void promise9() {
        Check.sentence("9: The time of the latest pulse");
        PulsePlotter p = Check.ran("G1F3X2\n\nG0Y1\nG1", 2);
        Check.due("two pulses: time()", p.time(), 666668);
        p.run(0);
        Check.due("run(0): time()", p.time(), 666668);
        p.run(5);
        Check.due("one pulse more, and the end: time()", p.time(), 666768);
        p.run(5);
        Check.due("behind the end: time()", p.time(), 666768);
        Check.due("behind a fault: time()", Check.ran("X5\nG1F1X6?").time(), 500);

        Check.sentence("9: 0 if there was none");
        Check.due("new: time()", new PulsePlotter().time(), 0);
        Check.due("lines without a pulse: time()", Check.ran("G1F7\nX0\nM2").time(), 0);
        Check.due("a fault at once: time()", Check.ran("G1F7X999").time(), 0);
        p.begin();
        Check.due("begin: time()", p.time(), 0);
        p.run(1);
        Check.due("begin, run(1): time()", p.time(), 333334);
    }

    private static void promise10() {
        Check.sentence("10: How many pulses were made since begin().");
        PulsePlotter p = Check.loaded("X3\nG1F1Y4\nG3J1");
        Check.due("before run: pulses()", p.pulses(), 0);
        p.run(2);
        Check.due("run(2): pulses()", p.pulses(), 2);
        p.run(3);
        Check.due("run(3): pulses()", p.pulses(), 5);
        p.run(ALL);
        Check.due("run to the end: pulses()", p.pulses(), 11);
        p.run(5);
        Check.due("run behind the end: pulses()", p.pulses(), 11);
        p.begin();
        Check.due("begin: pulses()", p.pulses(), 0);
        p.run(1);
        Check.due("begin, run(1): pulses()", p.pulses(), 1);
        p.feed(0);
        Check.due("feed(0): pulses()", p.pulses(), 0);
        p.run(2);
        p.clear();
        Check.due("clear: pulses()", p.pulses(), 0);
    }

    private static void promise11() {
        Check.sentence("11: The latest pulse as 3 (dx + 1) + dy + 1");
        for (int dx = -1; dx <= 1; dx++) {
            for (int dy = -1; dy <= 1; dy++) {
                String program = "X9Y9\nG91X" + dx + "Y" + dy;
                boolean none = dx == 0 && dy == 0;
                Check.due(program + ": last()", Check.ran(program).last(), none ? 8 : 3 * (dx + 1) + dy + 1);
            }
        }
        Check.due("first of a move: last()", Check.ran("X3\nY-3", 4).last(), 3);
        Check.due("last of a move: last()", Check.ran("X3\nY-3", 3).last(), 7);
        Check.due("first of an arc: last()", Check.ran("F1G3I1", 1).last(), 6);
        Check.due("last of an arc: last()", Check.ran("F1G3I1", 4).last(), 0);
        Check.due("stays behind a fault: last()", Check.ran("X3\nI1").last(), 7);
        Check.due("stays behind the end: last()", Check.ran("X3\nY-1\nX0Y-1M2\n").last(), 1);

        Check.sentence("11: 4 if there was none since begin()");
        Check.due("new: last()", new PulsePlotter().last(), 4);
        Check.due("lines without a pulse: last()", Check.ran("X0\nG1F1Y0").last(), 4);
        Check.due("a fault at once: last()", Check.ran("X999").last(), 4);
        PulsePlotter p = Check.ran("X3");
        p.begin();
        Check.due("begin: last()", p.last(), 4);
        p.run(0);
        Check.due("begin, run(0): last()", p.last(), 4);
        p.run(1);
        p.feed(0);
        Check.due("feed(0): last()", p.last(), 4);
        p.run(1);
        p.clear();
        Check.due("clear: last()", p.last(), 4);
    }

    private static void dueLine(String program, int n, int line) {
        Check.due(Check.show(program) + ", run(" + n + "): line()", Check.ran(program, n).line(), line);
    }

    private static void promise12() {
        Check.sentence("12: The number (from 1) of the line that is worked on: the one whose move goes on");
        dueLine("X2\nY2", 1, 1);
        dueLine("X2\nY2", 3, 2);
        dueLine("\n\nG1F1\nX2\nY1", 1, 4);
        dueLine("X2\n\n \nX2\nY2\n\n\n", 3, 5);
        dueLine("\n".repeat(398) + "X2", 1, 399);

        Check.sentence("12: or was the last begun");
        dueLine("X2\nY1", 2, 1);
        dueLine("X2\n\nG1\nM2", 2, 1);
        dueLine("X2\nX2\nX3\n?", 3, 3);

        Check.sentence("12: that has the fault");
        for (String faulty : new String[] {"?", "G4", "X1X1", "F0", "I1", "G1X1", "G2F1I0", "X999"}) {
            dueLine(faulty, ALL, 1);
            dueLine("X1\nG0\n" + faulty + "\nX3", ALL, 3);
            dueLine("X1\nG0\n" + faulty + "\nX3", 1, 1);
        }

        Check.sentence("12: or that has M");
        dueLine("M2\nX1", ALL, 1);
        dueLine("X1\nM2\nX2\nX3", ALL, 2);
        dueLine("X1\nX2M2\nX3\n", ALL, 2);
        dueLine("X1\n\nG1\nM2", ALL, 4);

        Check.sentence("12: 0 before the first");
        dueLine("X1", 0, 0);
        dueLine("?", 0, 0);
        dueLine("M2", -1, 0);

        Check.sentence("12: the number of lines after the program ended behind the last one");
        dueLine("", ALL, 0);
        dueLine("X1", ALL, 1);
        dueLine("X1\n", ALL, 1);
        dueLine("X1\n ", ALL, 2);
        dueLine("X2\n\n \nY1\n\n\n", ALL, 6);
        dueLine("\n".repeat(400), ALL, 400);
    }

    private static void dueFeed(String program, int n, int feed) {
        Check.due(Check.show(program) + ", run(" + n + "): feedRate()", Check.ran(program, n).feedRate(), feed);
    }

    private static void promise13() {
        Check.sentence("13: The feed");
        dueFeed("F5X1", 1, 5);
        dueFeed("F1\nF10000", ALL, 10000);
        dueFeed("F00012X1\nX2", 2, 12);
        dueFeed("X1F3\nX2F4", 1, 3);
        dueFeed("X1F3\nX2F4", 2, 4);
        dueFeed("F3M2\nF4", ALL, 3);

        Check.sentence("13: 0 if none was set");
        dueFeed("", ALL, 0);
        dueFeed("F5X1", 0, 0);
        dueFeed("X1\nG1", ALL, 0);
        dueFeed("F0", ALL, 0);
        dueFeed("F5?", ALL, 0);
        PulsePlotter p = Check.ran("F5X1");
        p.begin();
        Check.due("begin: feedRate()", p.feedRate(), 0);
    }

    private static void dueMode(String program, int n, int mode) {
        Check.due(Check.show(program) + ", run(" + n + "): mode()", Check.ran(program, n).mode(), mode);
    }

    private static void promise14() {
        Check.sentence("14: The motion mode, plus 4 if distances are relative.");
        dueMode("", ALL, 0);
        dueMode("G3G91", 0, 0);
        for (int motion = 0; motion <= 3; motion++) {
            dueMode("G" + motion, ALL, motion);
            dueMode("G0" + motion + "G91", ALL, motion + 4);
            dueMode("G91\nG" + motion + "\n\nG90", ALL, motion);
            dueMode("G3G91\nG" + motion, ALL, motion + 4);
        }
        dueMode("X1G91\nG90G1", 1, 4);
        dueMode("X1G91\nG90G1", 2, 1);
        dueMode("G91G2I1F1", 1, 6);
        dueMode("G91G1M2\nG90", ALL, 5);
    }

    private static void dueLeft(String program, int n, int left) {
        Check.due(Check.show(program) + ", run(" + n + "): left()", Check.ran(program, n).left(), left);
    }

    private static void promise15() {
        Check.sentence("15: How many of the pulses of the present move are still to be made");
        dueLeft("X9", 1, 8);
        dueLeft("X9", 8, 1);
        dueLeft("X9\nY3", 10, 2);
        dueLeft("X3Y-7", 1, 6);
        dueLeft("X-200\nX200Y1", 201, 399);
        dueLeft("F1G3I1", 1, 3);
        dueLeft("F1G3X2I1", 1, 1);
        dueLeft("F1G2I100", 1, 4 * 141 - 1);
        dueLeft("F1G3X100Y100I100", 1, 3 * 141 - 1);
        dueLeft("F1G2X100Y100I100", 1, 141 - 1);
        dueLeft("X-200\nF1G2I200", 201, 1131);

        Check.sentence("15: 0 if there is no move under way");
        dueLeft("", ALL, 0);
        dueLeft("X9", 0, 0);
        dueLeft("X9\nY3", 9, 0);
        dueLeft("X9M2\nY3", 9, 0);
        dueLeft("F1G3I1\nX9", 4, 0);
        dueLeft("X9", ALL, 0);
        dueLeft("G1", ALL, 0);
        dueLeft("X0", ALL, 0);
        dueLeft("X9\nG2F1I900", ALL, 0);
        dueLeft("F1G2I5\nX1", ALL, 0);
        PulsePlotter p = Check.ran("X9", 4);
        p.begin();
        Check.due("begin within a move: left()", p.left(), 0);
        Check.due("begin within a move: run(2)", p.run(2), 2);
        p.clear();
        Check.due("clear within a move: left()", p.left(), 0);
    }

    public static void main(String[] args) {
        objectIsUsedFor512Calls();
        promise1();
        promise2CodesBeforeZero();
        promise2Begins();
        promise2Full();
        promise3();
        promise4();
        promise5None();
        promise5HowMany();
        promise5NextLine();
        promise6();
        promises7And8();
        promise9();
        promise10();
        promise11();
        promise12();
        promise13();
        promise14();
        promise15();
        Check.finish();
    }
}
