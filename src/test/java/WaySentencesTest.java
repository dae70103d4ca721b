import java.util.HashSet;
import java.util.List;
import java.util.Set;

/** The sentences on the way that the pulses take, straight or round, and on their times. */
public final class WaySentencesTest {
    private static final int MOST_CALLS = 512;
    private static final String[] WIDE_MOVES = {
        "X200Y200\nX-200Y-200\nX200Y-199\nX-200Y200\nX-199Y-200",
        "G1F3X200\nY-200\nX-200\nY200\nX200Y199",
        "X-200\nG2F7I200\nI100\nG3I200",
        "Y200\nG3F9999J-200X200Y0\nG2X0Y-200I-200\nJ100",
        "X120Y160\nG2F10000X160Y120I-120J-160\nG3X-120Y-160I-160J-120"};

    private WaySentencesTest() {
    }

    /** What is told of each pulse: its number from 1, the place, time and last() behind it. */
    private interface Step {
        void seen(int k, int x, int y, long time, int last);
    }

    /** Goes through the program pulse by pulse; new objects keep to the bound on calls. */
    private static void walk(String program, Step step) {
        PulsePlotter p = Check.loaded(program);
        int calls = program.length();
        int k = 0;
        while (p.run(1) == 1) {
            k++;
            step.seen(k, p.x(), p.y(), p.time(), p.last());
            calls += 5;
            if (calls > MOST_CALLS - 10) {
                p = Check.ran(program, k);
                calls = program.length();
            }
        }
        Check.due(Check.show(program) + ": state()", p.state(), 100);
    }

    /** A full circle around (0, 0) that begins at (i, j), which is reached with max(i, j) pulses. */
    private static String circleFrom(int i, int j) {
        return "X" + i + "Y" + j + "\nF1G3I" + -i + "J" + -j;
    }

    private static void eachPulseIsOneStep() {
        Check.sentence("each pulse moves one or both axes by one step");
        for (String program : WIDE_MOVES) {
            int[] before = new int[2];
            walk(program, (k, x, y, time, last) -> {
                int dx = x - before[0];
                int dy = y - before[1];
                boolean oneStep = Math.abs(dx) <= 1 && Math.abs(dy) <= 1 && (dx != 0 || dy != 0);
                Check.due(program + " pulse " + k + " is one step", oneStep ? 1 : 0, 1);
                Check.due(program + " pulse " + k + ": last()", last, 3 * (dx + 1) + dy + 1);
                before[0] = x;
                before[1] = y;
            });
        }
    }

    private static void pulsesEndAtTheGoal() {
        Check.sentence("The pulses end exactly where the program says");
        for (int dx = -7; dx <= 7; dx++) {
            for (int dy = -7; dy <= 7; dy++) {
                Check.dueEnd("X" + dx + "Y" + dy, dx, dy);
                Check.dueEnd("X-5Y9\nG1F1G91X" + dx + "Y" + dy, dx - 5, dy + 9);
            }
        }
        Check.dueEnd("X200Y199\nX-200Y-200", -200, -200);
        Check.dueEnd("F1G2X10I5", 10, 0);
        Check.dueEnd("F1G3X2Y-4I5", 2, -4);
    }

    private static void staysCloseToTheTrueWay() {
        Check.sentence("stay close to the true way");
        for (int[] d : new int[][] {{5, 2}, {-5, 2}, {2, -5}, {-7, -3}, {200, 199}, {-200, 77}, {1, -200}, {6, 6}}) {
            int n = Math.max(Math.abs(d[0]), Math.abs(d[1]));
            walk("X" + d[0] + "Y" + d[1], (k, x, y, time, last) -> {
                boolean close = 2 * Math.abs(n * x - k * d[0]) <= n && 2 * Math.abs(n * y - k * d[1]) <= n;
                Check.due("to " + d[0] + "," + d[1] + " pulse " + k + " is close", close ? 1 : 0, 1);
            });
        }
        for (int i = 1; i <= 200; i += i < 30 ? 1 : 17) {
            for (int j = 0; j <= i && i * i + j * j <= 40000; j += i < 30 ? 1 : 11) {
                double radius = Math.sqrt(i * i + j * j);
                int skip = i;
                String program = circleFrom(i, j);
                walk(program, (k, x, y, time, last) -> {
                    boolean close = k <= skip || Math.abs(Math.sqrt(x * x + y * y) - radius) < 0.51;
                    Check.due(Check.show(program) + " pulse " + k + " is close", close ? 1 : 0, 1);
                });
            }
        }
    }

    private static void neverLeavesTheLimits() {
        Check.sentence("never leave the limits");
        for (String program : WIDE_MOVES) {
            walk(program, (k, x, y, time, last) -> {
                boolean within = x >= -200 && x <= 200 && y >= -200 && y <= 200;
                Check.due(program + " pulse " + k + " is within the limits", within ? 1 : 0, 1);
            });
        }
    }

    private static void neverFasterThanTheFeed() {
        Check.sentence("never come faster than the feed allows");
        for (int feed : new int[] {1, 3, 7, 999, 1001, 9999, 10000}) {
            for (String move : new String[] {"G1X9", "G2I5", "G3J-5"}) {
                long[] before = new long[1];
                walk("F" + feed + move, (k, x, y, time, last) -> {
                    boolean slow = (time - before[0]) * feed >= 1000000;
                    Check.due("F" + feed + move + " pulse " + k + " is slow enough", slow ? 1 : 0, 1);
                    before[0] = time;
                });
            }
        }
    }

    private static void pulsesOfStraightMove() {
        Check.sentence("A STRAIGHT MOVE from (x0, y0) by dx, dy has n = max(|dx|, |dy|) pulses");
        int[][] moves = {{1, 0, 1}, {0, -1, 1}, {1, 1, 1}, {-1, 1, 1}, {5, 3, 5}, {3, 5, 5}, {-5, 3, 5}, {3, -5, 5},
            {-3, -5, 5}, {4, -4, 4}, {200, -1, 200}, {0, 0, 0}};
        for (int[] move : moves) {
            for (String start : new String[] {"", "X-17Y9\n"}) {
                int before = start.isEmpty() ? 0 : 17;
                int goalX = move[0] - (start.isEmpty() ? 0 : 17);
                int goalY = move[1] + (start.isEmpty() ? 0 : 9);
                String program = start + "X" + goalX + "Y" + goalY;
                Check.due(Check.show(program) + ": run", Check.loaded(program).run(9999), before + move[2]);
            }
        }
        Check.due("the longest: left()", Check.ran("X-200Y-200\nX200Y199", 201).left(), 399);
        Check.due("the longest the other way: left()", Check.ran("X200Y200\nX199Y-200", 201).left(), 399);
    }

    private static void placesOfStraightMove() {
        Check.sentence("after pulse k it is at (x0 + floor((2 k dx + n) / (2 n)), y0 + floor((2 k dy + n) / (2 n)))");
        // A half goes up, also below zero.
        Check.duePlaces("X4Y2", 0, "1,1 2,1 3,2 4,2");
        Check.duePlaces("X4Y-2", 0, "1,0 2,-1 3,-1 4,-2");
        Check.duePlaces("X-4Y2", 0, "-1,1 -2,1 -3,2 -4,2");
        Check.duePlaces("X-4Y-2", 0, "-1,0 -2,-1 -3,-1 -4,-2");
        Check.duePlaces("X2Y4", 0, "1,1 1,2 2,3 2,4");
        Check.duePlaces("X-2Y-4", 0, "0,-1 -1,-2 -1,-3 -2,-4");
        Check.duePlaces("X1Y2", 0, "1,1 1,2");
        Check.duePlaces("X-1Y2", 0, "0,1 -1,2");
        Check.duePlaces("X5Y1", 0, "1,0 2,0 3,1 4,1 5,1");
        Check.duePlaces("X-5Y-1", 0, "-1,0 -2,0 -3,-1 -4,-1 -5,-1");
        Check.duePlaces("X3Y-3", 0, "1,-1 2,-2 3,-3");
        // From a place that is not 0, the rounding is that of the distance, not of the place.
        Check.duePlaces("X-3Y-5\nX1Y-3", 5, "-2,-4 -1,-4 0,-3 1,-3");
        Check.duePlaces("X3Y5\nX-1Y3", 5, "2,5 1,4 0,4 -1,3");
        PulsePlotter p = Check.ran("X-200Y-200\nX200Y199", 200 + 200);
        Check.due("half of the longest: y()", p.y(), 0);
        Check.due("one before: y()", Check.ran("X-200Y-200\nX200Y199", 200 + 199).y(), -1);
    }

    private static void roundingOfTheCircle() {
        // The rest of it, "or 0 if 4 (R - u^2) < 1", never comes about: R is at least 1, and 2 u^2 at most R.
        Check.sentence("let w(u) be the integer w >= 0 with (2 w - 1)^2 <= 4 (R - u^2) < (2 w + 1)^2");
        // R = 13: 49 <= 4 * 13 < 81 but 25 <= 4 * 12 < 49, so w(0) = 4 and w(1) = 3, both next to the bound 49.
        Check.duePlaces(circleFrom(3, 2), 3, "2,3 1,3 0,4 -1,3 -2,3 -3,2 -3,1 -4,0 -3,-1 -3,-2 -2,-3 -1,-3 0,-4 1,-3"
                + " 2,-3 3,-2 3,-1 4,0 3,1 3,2");
        // R = 20: 49 <= 4 * 20 < 81, next to the bound 81.
        Check.duePlaces(circleFrom(4, 2), 4, "3,3 2,4 1,4 0,4 -1,4 -2,4 -3,3 -4,2 -4,1 -4,0 -4,-1 -4,-2 -3,-3 -2,-4"
                + " -1,-4 0,-4 1,-4 2,-4 3,-3 4,-2 4,-1 4,0 4,1 4,2");
        Check.duePlaces(circleFrom(2, 1), 2, "1,2 0,2 -1,2 -2,1 -2,0 -2,-1 -1,-2 0,-2 1,-2 2,-1 2,0 2,1");
        Check.duePlaces(circleFrom(3, 1), 3, "2,2 1,3 0,3 -1,3 -2,2 -3,1 -3,0 -3,-1 -2,-2 -1,-3 0,-3 1,-3 2,-2 3,-1"
                + " 3,0 3,1");
    }

    private static void smallestCircles() {
        Check.sentence("Points are all (u, w(u)), (u, -w(u)), (w(u), u), (-w(u), u) for integers u with 2 u^2 <= R");
        Check.duePlaces(circleFrom(1, 0), 1, "0,1 -1,0 0,-1 1,0");
        // R = 2 and R = 8: u = 1 and u = 2 are just in.
        Check.duePlaces(circleFrom(1, 1), 1, "0,1 -1,1 -1,0 -1,-1 0,-1 1,-1 1,0 1,1");
        Check.duePlaces(circleFrom(2, 2), 2, "1,3 0,3 -1,3 -2,2 -3,1 -3,0 -3,-1 -2,-2 -1,-3 0,-3 1,-3 2,-2 3,-1 3,0"
                + " 3,1 2,2");
        // R = 4: u = 1 is in, u = 2 is not.
        Check.duePlaces(circleFrom(2, 0), 2, "2,1 1,2 0,2 -1,2 -2,1 -2,0 -2,-1 -1,-2 0,-2 1,-2 2,-1 2,0");
    }

    private static void cornersOfTheCircle() {
        Check.sentence("m being the greatest integer with 2 m^2 <= R, if w(m) = m + 2, the four points"
                + " (m + 1, m + 1), (m + 1, -m - 1), (-m - 1, m + 1), (-m - 1, -m - 1)");
        // R = 17 is the least with w(m) = m + 2: m = 2, w(2) = 4.
        Check.duePlaces(circleFrom(4, 1), 4, "4,2 3,3 2,4 1,4 0,4 -1,4 -2,4 -3,3 -4,2 -4,1 -4,0 -4,-1 -4,-2 -3,-3"
                + " -2,-4 -1,-4 0,-4 1,-4 2,-4 3,-3 4,-2 4,-1 4,0 4,1");
        Check.duePlaces("F1G3X-7Y7I-7", 0, "0,1 0,2 -1,3 -1,4 -2,5 -3,6 -4,6 -5,7 -6,7 -7,7");
        Check.duePlaces("F1G2X-7Y-7I-7", 0, "0,-1 0,-2 -1,-3 -1,-4 -2,-5 -3,-6 -4,-6 -5,-7 -6,-7 -7,-7");
        // How many points there are with w(m) = m + 2, with m + 1 and with m.
        int[][] counts = {{4, 1, 24}, {7, 0, 40}, {8, 2, 48}, {9, 4, 56}, {5, 0, 28}, {5, 2, 28}, {6, 3, 36},
            {4, 0, 20}, {3, 3, 24}, {4, 4, 32}, {5, 5, 40}, {7, 2, 40}, {10, 0, 56}, {100, 0, 564}, {200, 0, 1132}};
        for (int[] count : counts) {
            String program = circleFrom(count[0], count[1]);
            Check.due(Check.show(program) + ": run", Check.loaded(program).run(9999), count[0] + count[2]);
        }
    }

    private static void pointsBesideOneAnother() {
        Check.sentence("(No two of them lie in the same direction from the centre,"
                + " and one lies beside the other, also diagonally, if no other one is between them.)");
        for (int i = 1; i <= 200; i += i < 24 ? 1 : 13) {
            for (int j = 0; j <= i && i * i + j * j <= 40000; j += i < 24 ? 1 : 19) {
                int skip = i;
                int r = i * i + j * j;
                String program = circleFrom(i, j);
                int[] before = {i, j};
                Set<Integer> places = new HashSet<>();
                walk(program, (k, x, y, time, last) -> {
                    if (k > skip) {
                        boolean ahead = before[0] * y - before[1] * x > 0;
                        Check.due(Check.show(program) + " pulse " + k + " turns on", ahead ? 1 : 0, 1);
                        boolean beside = Math.abs(x - before[0]) <= 1 && Math.abs(y - before[1]) <= 1;
                        Check.due(Check.show(program) + " pulse " + k + " is beside", beside ? 1 : 0, 1);
                        places.add(1000 * x + y);
                        before[0] = x;
                        before[1] = y;
                    }
                });
                Set<Integer> want = new HashSet<>();
                for (int[] point : Reference.circle(r)) {
                    want.add(1000 * point[0] + point[1]);
                }
                Check.due(Check.show(program) + " comes to all points", places.equals(want) ? 1 : 0, 1);
            }
        }
    }

    private static void orderOfArcs() {
        Check.sentence("An ARC goes from point to point of the circle, put around the centre, in the order of their"
                + " directions, clockwise or counterclockwise, from here to the goal, one pulse for each.");
        // To the next point, and to it the other way round.
        Check.duePlaces("F1G2X1Y1I1", 0, "1,1");
        Check.duePlaces("F1G3X1Y1I1", 0, "1,-1 2,0 1,1");
        Check.duePlaces("X5\nG91F1G3X-2Y4I-5", 5, "5,1 5,2 4,3 3,4");
        Check.duePlaces("X3Y4\nG2F1X5Y0I-3J-4", 4, "4,3 5,2 5,1 5,0");
        Check.duePlaces("X7Y9\nG2F1X9Y7I-1J-3", 9, "8,8 9,7");
        // Through the direction in which the numbering of the directions begins, and out of it.
        Check.duePlaces("X3Y-4\nG3F1X3Y4I-3J4", 4, "4,-3 5,-2 5,-1 5,0 5,1 5,2 4,3 3,4");
        Check.duePlaces("X3Y4\nG2F1X3Y-4I-3J-4", 4, "4,3 5,2 5,1 5,0 5,-1 5,-2 4,-3 3,-4");
        Check.duePlaces("X-3Y4\nG3F1X-3Y-4I3J-4", 4, "-4,3 -5,2 -5,1 -5,0 -5,-1 -5,-2 -4,-3 -3,-4");
        Check.duePlaces("X-3Y-4\nG2F1X-3Y4I3J4", 4, "-4,-3 -5,-2 -5,-1 -5,0 -5,1 -5,2 -4,3 -3,4");
    }

    private static void endsArePoints() {
        Check.sentence("(Here and the goal are points of it.)");
        for (int r : new int[] {1, 2, 5, 8, 17, 25, 49, 65, 200}) {
            List<int[]> points = Reference.circle(r);
            for (int[] from : points) {
                for (int[] to : points) {
                    if (from[0] * from[0] + from[1] * from[1] == r && to[0] * to[0] + to[1] * to[1] == r) {
                        endsArePoints(points.size(), from, to);
                    }
                }
            }
        }
    }

    private static void endsArePoints(int around, int[] from, int[] to) {
        String start = "X" + from[0] + "Y" + from[1] + "\nF1";
        String arc = "X" + to[0] + "Y" + to[1] + "I" + -from[0] + "J" + -from[1];
        Check.dueEnd(start + "G2" + arc, to[0], to[1]);
        Check.dueEnd(start + "G3" + arc, to[0], to[1]);
        int skip = Math.max(Math.abs(from[0]), Math.abs(from[1]));
        int bothWays = Check.ran(start + "G2" + arc).pulses() + Check.ran(start + "G3" + arc).pulses() - 2 * skip;
        boolean here = from[0] == to[0] && from[1] == to[1];
        Check.due(start + arc + ": pulses both ways", bothWays, here ? 2 * around : around);
    }

    private static void timeOfPulses() {
        Check.sentence("The TIME of a pulse is that of the one before, 0 for the first, plus a PAUSE in microseconds");
        Check.due("first pulse, mode 0: time()", Check.ran("X5", 1).time(), 100);
        Check.due("second pulse, mode 0: time()", Check.ran("X5", 2).time(), 200);
        Check.due("first pulse, mode 1: time()", Check.ran("G1F8X5", 1).time(), 125000);
        Check.due("second pulse, mode 1: time()", Check.ran("G1F8X5", 2).time(), 250000);
        Check.due("over lines: time()", Check.ran("F9G1X2\nX4F2\nG0X5\n\nG1X6\nX6").time(),
                222224 + 1000000 + 100 + 500000);
        String mixed = "F7G1X9Y-4\nG0X0\nG2I3";
        Check.due("all at one go or by 1: time()", Check.ran(mixed).time(), timeByOne(mixed));
        Check.due("up to an int: time()", Check.ran("F1G2I-99\nI-99\nI-99\nI-99", 2147).time(), 2147000000L);
        Check.due("more than an int: time()", Check.ran("F1G2I-99\nI-99\nI-99\nI-99", 2148).time(), 2148000000L);
        Check.due("the longest: time()", Check.ran("F1G2I99\n" + "I99\n".repeat(98)).time(), 55440000000L);
    }

    private static long timeByOne(String program) {
        long[] latest = new long[1];
        walk(program, (k, x, y, time, last) -> latest[0] = time);
        return latest[0];
    }

    private static void pauseOfModeZero() {
        Check.sentence("100 in mode 0");
        Check.due("no feed: time()", Check.ran("X3").time(), 300);
        Check.due("F1: time()", Check.ran("F1X3").time(), 300);
        Check.due("F10000: time()", Check.ran("G0F10000X3").time(), 300);
        Check.due("relative: time()", Check.ran("F3G91X3").time(), 300);
        Check.due("back in mode 0: time()", Check.ran("G1F2\nG0\nX3").time(), 300);
    }

    private static void pauseOfFeed() {
        Check.sentence("else 1000000 / feed, rounded up");
        for (int feed = 1; feed <= 10000; feed++) {
            int pause = 1000000 % feed == 0 ? 1000000 / feed : 1000000 / feed + 1;
            Check.due("G1F" + feed + ": time()", Check.ran("G1X1F" + feed).time(), pause);
        }
        for (String move : new String[] {"G1X4", "G2I1", "G3J1", "G91G1Y-4"}) {
            Check.due(move + "F1: time()", Check.ran(move + "F1").time(), 4000000);
            Check.due(move + "F3: time()", Check.ran(move + "F3").time(), 4 * 333334);
            Check.due(move + "F9999: time()", Check.ran(move + "F9999").time(), 404);
            Check.due(move + "F10000: time()", Check.ran(move + "F10000").time(), 400);
        }
    }

    public static void main(String[] args) {
        eachPulseIsOneStep();
        pulsesEndAtTheGoal();
        staysCloseToTheTrueWay();
        neverLeavesTheLimits();
        neverFasterThanTheFeed();
        pulsesOfStraightMove();
        placesOfStraightMove();
        roundingOfTheCircle();
        smallestCircles();
        cornersOfTheCircle();
        pointsBesideOneAnother();
        orderOfArcs();
        endsArePoints();
        timeOfPulses();
        pauseOfModeZero();
        pauseOfFeed();
        Check.finish();
    }
}
