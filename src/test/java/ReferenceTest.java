import java.util.List;
import java.util.Random;

/** Compares the plotter with the reference: every circle that fits, straight moves, and made-up runs of calls. */
public final class ReferenceTest {
    private static final int MOST_CALLS = 512;

    private ReferenceTest() {
    }

    private static int compare(String what, PulsePlotter plotter, Reference want) {
        Check.due(what + ": state()", plotter.state(), want.state);
        Check.due(what + ": x()", plotter.x(), want.x);
        Check.due(what + ": y()", plotter.y(), want.y);
        Check.due(what + ": time()", plotter.time(), want.time);
        Check.due(what + ": pulses()", plotter.pulses(), want.pulses);
        Check.due(what + ": last()", plotter.last(), want.last);
        Check.due(what + ": line()", plotter.line(), want.line);
        Check.due(what + ": feedRate()", plotter.feedRate(), want.feedRate);
        Check.due(what + ": mode()", plotter.mode(), want.mode());
        Check.due(what + ": left()", plotter.left(), want.ahead.size());
        return 10;
    }

    /** Runs the program in pieces of the step and compares after each; new objects keep to the bound on calls. */
    private static void follow(String program, int step) {
        Reference want = new Reference();
        want.text = program;
        PulsePlotter plotter = Check.loaded(program);
        int calls = program.length();
        while (want.state == 0) {
            if (calls > MOST_CALLS - 20) {
                plotter = Check.loaded(program);
                plotter.run(want.pulses);
                calls = program.length();
            }
            Check.due(Check.show(program) + ": run(" + step + ")", plotter.run(step), want.run(step));
            calls += 1 + compare(Check.show(program) + " by " + step, plotter, want);
        }
    }

    private static void everyRadius() {
        for (int i = 0; i <= 200; i++) {
            for (int j = 0; j <= i; j++) {
                if (i * i + j * j > 40300) {
                    break;
                }
                String start = "G0X" + -i + "Y" + -j + "\n";
                int step = i <= 12 ? 1 : i * i + j * j > 40000 ? 37 : 211;
                follow(start + "G" + (2 + (i + j) % 2) + "F900I" + i + "J" + j, step);
            }
        }
        follow("X-200\nG2F1000I200", 1);
        follow("X120Y160\nG3F1000I-120J-160", 1);
    }

    private static void everyArcOf(int r) {
        List<int[]> points = Reference.circle(r);
        for (int[] from : points) {
            for (int[] to : points) {
                if (from[0] * from[0] + from[1] * from[1] == r && to[0] * to[0] + to[1] * to[1] == r) {
                    String centre = "I" + -from[0] + "J" + -from[1];
                    String goal = "X" + to[0] + "Y" + to[1];
                    String start = "X" + from[0] + "Y" + from[1] + "F7\n";
                    follow(start + "G2" + goal + centre, 3);
                    follow(start + "G3" + centre + goal, 4);
                }
            }
        }
    }

    private static void straightMoves() {
        for (int dx = -9; dx <= 9; dx++) {
            for (int dy = -9; dy <= 9; dy++) {
                follow("X3Y-4\nG91G1F3X" + dx + "Y" + dy, 1);
            }
        }
        follow("X-200Y-200\nX200Y199\nX-200Y-57\nX-199Y200\nX0Y0", 1);
        follow("G91X200Y-200\nX-400Y131\nX1Y-131\nX399Y400", 7);
    }

    private static String number(Random random) {
        int size = random.nextInt(10);
        int value = size < 7 ? random.nextInt(12) : size < 9 ? random.nextInt(230) : random.nextInt(10000);
        String sign = random.nextInt(3) == 0 ? "-" : random.nextInt(6) == 0 ? "+" : "";
        return sign + (random.nextInt(9) == 0 && value < 1000 ? "0" : "") + value;
    }

    private static String code(Random random) {
        String[] codes = {"G0", "G1", "G2", "G3", "G90", "G91", "G01", "G02", "G3", "G91", "M2", "M02", "G4", "G92",
            "M3", "G", "M", "G001", "M002", "G-1", "g1", "\t", "\u00ff", "X", "X+-1", "X12345", "F", "F+5", "F123456"};
        return codes[random.nextInt(random.nextInt(8) == 0 ? codes.length : 10)];
    }

    private static String feedWord(Random random) {
        int[] feeds = {1, 2, 3, 7, 10, 999, 3333, 9999, 10000, 64};
        if (random.nextInt(25) == 0) {
            return random.nextBoolean() ? "F0" : "F" + (10001 + random.nextInt(80000));
        }
        return "F" + feeds[random.nextInt(feeds.length)];
    }

    private static String arcLine(Random random) {
        int i = random.nextInt(41) - 20;
        int j = random.nextInt(41) - 20;
        int px = random.nextBoolean() ? i : -i;
        int py = random.nextBoolean() ? j : -j;
        boolean swapped = random.nextBoolean();
        int goalX = i + (swapped ? py : px);
        int goalY = j + (swapped ? px : py);
        String mode = random.nextBoolean() ? "G2" : "G3";
        return "G91" + mode + "X" + goalX + "Y" + goalY + "I" + i + "J" + j;
    }

    private static String freeLine(Random random) {
        StringBuilder line = new StringBuilder();
        int count = random.nextInt(5);
        for (int k = 0; k < count; k++) {
            int kind = random.nextInt(12);
            if (kind < 5) {
                line.append(kind < 3 ? 'X' : 'Y').append(number(random));
            } else if (kind < 7) {
                line.append(kind < 6 ? 'I' : 'J').append(number(random));
            } else if (kind < 9) {
                line.append(feedWord(random));
            } else {
                line.append(code(random));
            }
        }
        return line.toString();
    }

    private static String program(Random random) {
        StringBuilder text = new StringBuilder();
        if (random.nextInt(5) > 0) {
            text.append(feedWord(random)).append(random.nextBoolean() ? "\n" : "");
        }
        int lines = random.nextInt(9);
        for (int k = 0; k < lines; k++) {
            int kind = random.nextInt(6);
            if (kind < 2) {
                text.append(arcLine(random));
            } else if (kind < 4) {
                text.append(random.nextBoolean() ? "G1" : "G0").append("X").append(number(random));
                text.append("Y").append(number(random));
            } else {
                text.append(freeLine(random));
            }
            text.append(random.nextInt(40) == 0 ? "M2" : "").append('\n');
        }
        for (int k = random.nextInt(4) * 2; k > 0; k--) {
            text.insert(random.nextInt(text.length() + 1), ' ');
        }
        if (text.length() > 0 && random.nextBoolean()) {
            text.setLength(text.length() - 1);
        }
        return text.toString();
    }

    private static int runLength(Random random) {
        int[] lengths = {-1, 0, 1, 1, 2, 3, 5, 8, 20, 60, 1000, Integer.MAX_VALUE, Integer.MIN_VALUE};
        return lengths[random.nextInt(lengths.length)];
    }

    /** One made-up run of calls on one object, within the bound on calls. */
    private static void madeUpRun(int seed) {
        Random random = new Random(seed);
        PulsePlotter plotter = new PulsePlotter();
        Reference want = new Reference();
        int calls = 0;
        String pending = program(random);
        int fed = 0;
        while (calls < MOST_CALLS - 20) {
            String what = "seed " + seed + " call " + calls + " " + Check.show(want.text);
            if (fed < pending.length()) {
                int size = random.nextInt(6) == 0 ? random.nextInt(4) : 4;
                int packed = Check.pack(pending.substring(fed, Math.min(pending.length(), fed + size)), 0);
                int got = want.feed(packed);
                Check.due(what + ": feed(" + packed + ")", plotter.feed(packed), got);
                fed = got < 0 ? pending.length() : fed + got;
            } else {
                int kind = random.nextInt(24);
                if (kind == 0) {
                    plotter.clear();
                    want.clear();
                    pending = program(random);
                    fed = 0;
                } else if (kind == 1) {
                    plotter.begin();
                    want.begin();
                } else if (kind == 2) {
                    pending = program(random);
                    fed = 0;
                } else {
                    int n = runLength(random);
                    Check.due(what + ": run(" + n + ")", plotter.run(n), want.run(n));
                }
            }
            calls++;
            if (fed >= pending.length() || random.nextInt(10) == 0) {
                calls += compare(what, plotter, want);
            }
        }
    }

    public static void main(String[] args) {
        everyRadius();
        for (int r : new int[] {1, 2, 4, 5, 8, 25, 49, 50, 65, 169, 325}) {
            everyArcOf(r);
        }
        straightMoves();
        for (int seed = 0; seed < 3000; seed++) {
            madeUpRun(seed);
        }
        Check.finish();
    }
}
