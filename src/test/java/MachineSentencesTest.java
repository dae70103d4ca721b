/** The sentences on what a line does to the machine, on the faults 104 to 107, and on the program's end. */
public final class MachineSentencesTest {
    private MachineSentencesTest() {
    }

    private static void faultyLineDoesNothing() {
        Check.sentence("A faulty program is stopped before the faulty line does anything.");
        for (String faulty : new String[] {"X9Y9?", "X9Y9G4", "X9Y9X9", "X9Y9F0", "X9Y9I1", "G2X9Y9", "X9Y999",
            "G2X9Y9I9", "G3I201"}) {
            PulsePlotter p = Check.ran("F2G1X3Y-2\n" + faulty);
            Check.due(faulty + ": pulses()", p.pulses(), 3);
            Check.due(faulty + ": x()", p.x(), 3);
            Check.due(faulty + ": y()", p.y(), -2);
            Check.due(faulty + ": time()", p.time(), 1500000);
            Check.due(faulty + ": line()", p.line(), 2);
        }
    }

    private static void machineAtFirst() {
        Check.sentence("The MACHINE is at first at (0, 0) at time 0, in motion mode 0, absolute, without feed.");
        Check.dueAtFirst("new", new PulsePlotter());
        PulsePlotter p = Check.ran("X3\nX3Y-1\nX2");
        Check.due("no G, no F", Check.standing(p),
                "state 100 at 2,-1 time 500 pulses 5 last 1 line 3 feed 0 mode 0 left 0");
        Check.dueState(105, "G1X1");
    }

    private static void settingsOfALine() {
        Check.sentence("F sets the feed; G91 makes distances relative, G90 absolute; G0 .. G3 set the motion mode");
        Check.due("F: time()", Check.ran("G1F4X1").time(), 250000);
        Check.dueEnd("X3Y3\nG91X2Y-1", 5, 2);
        Check.dueEnd("X3Y3\nG91\nG90X2Y-1", 2, -1);
        Check.due("G0: mode()", Check.ran("G1\nG0X1").mode(), 0);
        Check.due("G1: mode()", Check.ran("G1F1X1").mode(), 1);
        Check.due("G2: mode()", Check.ran("G2F1I1").mode(), 2);
        Check.due("G3: mode()", Check.ran("G3F1I1").mode(), 3);
        // They are set before the line's move, wherever they stand in it.
        Check.dueEnd("X3\nX4G91", 7, 0);
        Check.dueEnd("G91X3\nX4G90", 4, 0);
        Check.due("F and G behind: time()", Check.ran("X1F4G1").time(), 250000);
        Check.due("G0 behind: time()", Check.ran("F4G1\nX1G0").time(), 100);
        Check.dueState(104, "F1X1G2", "F1G2\nI1G1");
        Check.dueState(100, "I1F1G2", "F1G2\nX1G1");
    }

    private static void settingsStay() {
        Check.sentence("all this stays for later lines");
        PulsePlotter p = Check.ran("F4\nG91\nG1\n\n \nX2\nX2\nY-1");
        Check.due("set in lines of their own", Check.standing(p),
                "state 100 at 4,-1 time 1250000 pulses 5 last 3 line 8 feed 4 mode 5 left 0");
        Check.due("feed kept through G0: time()", Check.ran("F4G1X1\nG0X2\nX3\nG1X4").time(), 500200);
        Check.dueEnd("G91X1\nG1F1X1\nG2I1\nG0X1", 3, 0);
        Check.dueEnd("F1G3\nI1\nJ1\nG1\nX4", 4, 0);
        Check.due("latest feed counts: time()", Check.ran("G1F4X1\nF2\nX2").time(), 750000);
        Check.due("G90 stays: mode()", Check.ran("G91\nG90\nX1\nG1").mode(), 1);
    }

    /** A line with those of X, Y, I, J whose bits are set, all with the same number. */
    private static String lineOf(int letters, String numberOfAll) {
        String line = "";
        for (int bit = 0; bit < 4; bit++) {
            if ((letters >> bit & 1) != 0) {
                line += "XYIJ".charAt(bit) + numberOfAll;
            }
        }
        return line;
    }

    private static void lettersForMode() {
        Check.sentence("104: I or J stands in it, and the mode is 0 or 1;"
                + " or X or Y but neither I nor J, and the mode is 2 or 3.");
        for (int letters = 0; letters < 16; letters++) {
            boolean hasGoal = (letters & 3) != 0;
            boolean hasCentre = (letters & 12) != 0;
            for (int mode = 0; mode <= 3; mode++) {
                boolean wrong = mode < 2 ? hasCentre : hasGoal && !hasCentre;
                String line = lineOf(letters, "0");
                // A round move by 0 has R = 0, which is the next fault behind 104.
                int due = wrong ? 104 : mode > 1 && hasCentre ? 106 : 100;
                Check.dueState(due, "F1G" + mode + line, "F1G" + mode + "\n" + line, "F1" + line + "G" + mode);
                // 104 comes before 105, 106 and 107.
                if (wrong) {
                    Check.dueState(104, "G" + mode + line, "G" + mode + lineOf(letters, "-9999"));
                }
            }
        }
    }

    private static void lineWithoutMove() {
        Check.sentence("If it has X, Y, I or J, it moves");
        Check.dueState(100, "G1", "G2", "G3", "G1G91", "G3M2", "", " ");
        for (String line : new String[] {"", "G1", "G2F9", "G3G91", "M2", "F1", "F1G3M2"}) {
            PulsePlotter p = Check.loaded(line);
            Check.due(Check.show(line) + ": run", p.run(9), 0);
            Check.due(Check.show(line) + ": pulses()", p.pulses(), 0);
        }
        Check.due("X: run", Check.loaded("X1").run(9), 1);
        Check.due("Y: run", Check.loaded("Y1").run(9), 1);
        Check.due("I: run", Check.loaded("F1G2I1").run(9), 4);
        Check.due("J: run", Check.loaded("F1G2J1").run(9), 4);
    }

    private static void goal() {
        Check.sentence("to the GOAL: X's number, in relative distances plus the present x;"
                + " the present x without X; the same for Y.");
        Check.dueEnd("X3Y4\nX5", 5, 4);
        Check.dueEnd("X3Y4\nY5", 3, 5);
        Check.dueEnd("X3Y4\nX-5Y-6", -5, -6);
        Check.dueEnd("X3Y4\nG91X5", 8, 4);
        Check.dueEnd("X3Y4\nG91Y5", 3, 9);
        Check.dueEnd("X3Y4\nG91X-5Y-6", -2, -2);
        Check.dueEnd("X3Y4\nG91X0Y0", 3, 4);
        Check.dueEnd("X3Y4\nX0Y0", 0, 0);
        Check.dueEnd("X3Y4\nF1G2X13I5", 13, 4);
        Check.dueEnd("X3Y4\nF1G2Y14J5", 3, 14);
        Check.dueEnd("X3Y4\nF1G2X8Y9I5", 8, 9);
        Check.dueEnd("X3Y4\nF1G91G2X10I5", 13, 4);
        Check.dueEnd("X3Y4\nF1G91G3Y10J5", 3, 14);
        Check.dueEnd("X3Y4\nF1G91G3X5Y-5I5", 8, -1);
    }

    private static void wantOfFeed() {
        Check.sentence("105: the mode is not 0, and no feed was set.");
        Check.dueState(105, "G1X1", "G1Y1", "G2I1", "G3J1", "G2I1X2", "G1\nX1", "X1\nG1X2", "G0X1\nG3I1", "G1X1\nF1");
        Check.dueState(100, "X1", "G0X1Y1", "G91X1", "G1\nG0X1", "G1F1X1", "G1X1F1", "F1\n\nG1X1", "F1\nG2I1\nG1X1");
        // Also when there is no way to go, and before 106 and 107.
        Check.dueState(105, "G1X0", "G1X0Y0", "G91G1X0", "G1X201", "G2I0", "G2X1I0", "G3I9999", "G3X1I9999");
        PulsePlotter p = Check.ran("F5\nG1X1");
        p.clear();
        Check.load(p, "G1X1");
        p.run(1);
        Check.due("the feed of a text that is gone: state()", p.state(), 105);
    }

    private static void limitsOfStraightMoves() {
        Check.sentence("107 if the goal is not within the limits, -200 .. 200 for both axes.");
        for (String mode : new String[] {"", "G1F1", "G91", "G91G1F1"}) {
            for (String axis : new String[] {"X", "Y"}) {
                Check.dueState(100, mode + axis + "200", mode + axis + "-200", mode + axis + "199");
                Check.dueState(107, mode + axis + "201", mode + axis + "-201", mode + axis + "9999",
                        mode + axis + "-9999");
            }
            Check.dueState(100, mode + "X200Y-200", mode + "X-200Y200");
            Check.dueState(107, mode + "X200Y201", mode + "X201Y200", mode + "X-201Y0", mode + "X0Y-201");
        }
        Check.dueState(107, "X200\nG91X1", "X-200\nG91X-1", "Y200\nG91Y1", "Y-200\nG91Y-1", "X-200\nG91X401",
                "Y200\nG91Y-401", "X-200\nG91X9999", "Y200\nG91Y-9999");
        Check.dueState(100, "X-200\nG91X400", "X200\nG91X-400", "Y-200\nG91Y400", "Y200\nG91Y-400", "X200\nG91X0",
                "X200\nG91X-1\nX1");
        PulsePlotter p = Check.ran("X200Y-200\nG91Y-1");
        Check.due("at the corner", Check.standing(p),
                "state 107 at 200,-200 time 20000 pulses 200 last 6 line 2 feed 0 mode 4 left 0");
    }

    private static void straightMoveToHere() {
        Check.sentence("Else a straight move to the goal (no pulse if it is here).");
        PulsePlotter p = Check.loaded("X0Y0\nG1F5X0\nG91X0Y0");
        Check.due("to here only: run", p.run(5), 0);
        Check.due("to here only", Check.standing(p),
                "state 100 at 0,0 time 0 pulses 0 last 4 line 3 feed 5 mode 5 left 0");
        PulsePlotter next = Check.ran("X2\nX2\nX2Y0\nY3", 3);
        Check.due("the next line's first pulse", Check.standing(next),
                "state 0 at 2,1 time 300 pulses 3 last 5 line 4 feed 0 mode 0 left 2");
        Check.due("to here, and M", Check.ran("X0M2\nX9").pulses(), 0);
    }

    private static void directionsOfArcs() {
        Check.sentence("Modes 2 (clockwise) and 3 (counterclockwise; x to the right, y up)");
        Check.duePlaces("F1G2I1", 0, "1,1 2,0 1,-1 0,0");
        Check.duePlaces("F1G3I1", 0, "1,-1 2,0 1,1 0,0");
        Check.duePlaces("F1G2J1", 0, "-1,1 0,2 1,1 0,0");
        Check.duePlaces("F1G3J1", 0, "1,1 0,2 -1,1 0,0");
    }

    private static void centre() {
        Check.sentence("the CENTRE is the present place plus (I, J), 0 for one that is missing");
        for (String distances : new String[] {"G90", "G91"}) {
            String start = "X10Y20\nF1G2" + distances;
            Check.duePlaces(start + "I1", 20, "11,21 12,20 11,19 10,20");
            Check.duePlaces(start + "J-1", 20, "11,19 10,18 9,19 10,20");
            Check.duePlaces(start + "I1J0", 20, "11,21 12,20 11,19 10,20");
            Check.duePlaces(start + "I-1J-1", 20, "10,19 10,18 9,18 8,18 8,19 8,20 9,20 10,20");
        }
        // What is missing is 0, also when the line before had it.
        Check.duePlaces("F1G2J1\nI1", 0, "-1,1 0,2 1,1 0,0 1,1 2,0 1,-1 0,0");
        Check.duePlaces("F1G2I1\nJ1", 0, "1,1 2,0 1,-1 0,0 -1,1 0,2 1,1 0,0");
        Check.dueState(106, "F1G2J1\nI0", "F1G2I1\nJ0");
    }

    private static void notOnTheCircle() {
        Check.sentence("106 if R is 0, or the square of the goal's distance from the centre is not R.");
        Check.dueState(106, "G2F1I0", "G3F1J0", "G2F1I0J0", "G3F1I-0", "G2F1X0Y0I0", "G2F1X1I0", "X5Y5\nG2F1I0");
        Check.dueState(100, "G2F1I5X10", "G2F1I5X5Y5", "G3F1I5X2Y4", "G3F1I5X8Y-4", "G2F1I3J4X7Y7", "G2F1I3J4X8Y4");
        Check.dueState(106, "G2F1I5X9", "G2F1I5X11", "G2F1I5X10Y1", "G3F1I5X10Y-1", "G2F1I5X5", "G3F1I5X2Y3",
                "G3F1I5X2Y5", "G2F1I3J4X3Y4", "G2F1I3J4X7Y6", "G91G2F1X5Y4I5", "G2F1Y1I5");
        Check.dueState(100, "X4\nG91G2F1I5X10", "X4\nG2F1I5X14");
        Check.dueState(106, "X4\nG91G2F1I5X14", "X4\nG2F1I5X10");
        // 106 before 107.
        Check.dueState(106, "G2F1I300X1", "G2F1I9999X9999", "G3F1I9999J9999X-9999Y-9999",
                "X-200Y-200\nG91G2F1I-9999J-9999X9999Y9999", "X200\nG91G3F1X-9999I9999J-9999");
    }

    private static void limitsOfCircles() {
        Check.sentence("Else 107 if one of the circle's points, as said below, is not within the limits"
                + " when put around the centre.");
        // One side at a time, at the limit and one behind it; R is 100^2.
        Check.dueState(100, "X0\nG2F1I100", "X0\nG2F1I-100", "Y0\nG2F1J100", "Y0\nG2F1J-100");
        Check.dueState(107, "X1\nG2F1I100", "X-1\nG2F1I-100", "Y1\nG2F1J100", "Y-1\nG2F1J-100");
        Check.dueState(107, "Y101\nG2F1I100", "Y-101\nG2F1I100", "X101\nG3F1J100", "X-101\nG3F1J100");
        Check.dueState(100, "Y100\nG2F1I100", "Y-100\nG2F1I100", "X100\nG3F1J100", "X-100\nG3F1J100");
        // The greatest circle, and those that are too great wherever they are.
        Check.dueState(100, "X-200\nG2F1I200", "Y200\nG3F1J-200", "X120Y160\nG2F1I-120J-160");
        Check.dueState(107, "X-200\nG2F1I201", "G2F1I201", "G2F1I9999", "G2F1I9999J9999", "G3F1I-9999J-9999",
                "X142Y142\nG2F1I-142J-142");
        // All points count, not those of the arc alone, and the goal need not be outside.
        Check.dueState(107, "X1\nG2F1X101Y100I100", "X1\nG3F1X101Y-100I100", "G2F1X9998I4999");
        Check.dueState(100, "X0\nG2F1X100Y100I100");
        // The points are rounded: with R = 13 (3.6..) and R = 20 (4.4..) they go 4 far, with R = 10 (3.1..) 3 far.
        Check.dueState(100, "X194\nG2F1I2J3", "X192\nG2F1I4J2", "X196\nG2F1I1J3", "Y-194\nG3F1I3J-2");
        Check.dueState(107, "X195\nG2F1I2J3", "X193\nG2F1I4J2", "X197\nG2F1I1J3", "Y-195\nG3F1I3J-2");
    }

    private static void allTheWayRound() {
        Check.sentence("Else an arc to the goal; all the way round if the goal is here.");
        for (String program : new String[] {"F1G2I1", "F1G2X0I1", "F1G2Y0I1", "F1G2X0Y0I1", "F1G91G3X0Y0I1",
            "F1G3X0Y-0J-1"}) {
            Check.due(program + ": run", Check.loaded(program).run(9), 4);
            Check.dueEnd(program, 0, 0);
        }
        Check.due("R = 25, all round: run", Check.loaded("F1G2X0Y0I5").run(99), 28);
        Check.due("R = 25, half round: run", Check.loaded("F1G2X10I5").run(99), 14);
        Check.due("twice all round: run", Check.loaded("F1G2I5\nI5").run(99), 56);
    }

    private static void endWithM() {
        Check.sentence("With M the program ends after that (100)");
        for (String program : new String[] {"X3M2\nX9\n?", "M2X3\nX9", "X3M02", "X3\nM2\nX9", "X3\nM2X3\nX9",
            "X3\nF5M2G91\nX9"}) {
            PulsePlotter p = Check.loaded(program);
            Check.due(Check.show(program) + ": run", p.run(99), 3);
            Check.due(Check.show(program) + ": state()", p.state(), 100);
            Check.due(Check.show(program) + ": run again", p.run(99), 0);
        }
        PulsePlotter settings = Check.ran("F5M2G91G1X3");
        Check.due("the line with M does the rest too", Check.standing(settings),
                "state 100 at 3,0 time 600000 pulses 3 last 7 line 1 feed 5 mode 5 left 0");
        Check.dueState(107, "X999M2", "M2X999");
        Check.dueState(101, "M2?");
        Check.due("a fault in the line with M: line()", Check.ran("X1\nX999M2").line(), 2);
    }

    private static void endBehindTheLastLine() {
        Check.sentence("behind the last line too (100)");
        for (String program : new String[] {"X3", "X3\n", "X3\n\n", "X3\nG1", "\nX3\n "}) {
            PulsePlotter p = Check.loaded(program);
            Check.due(Check.show(program) + ": run", p.run(99), 3);
            Check.due(Check.show(program) + ": state()", p.state(), 100);
            Check.due(Check.show(program) + ": run again", p.run(99), 0);
        }
        // As many lines as there can be are passed over by one call.
        Check.dueState(100, "\n".repeat(400), "\n".repeat(399) + " ", "\n".repeat(398) + "X3", "");
        PulsePlotter most = Check.loaded("\n".repeat(400));
        Check.due("400 lines: run(1)", most.run(1), 0);
        Check.due("400 lines: state()", most.state(), 100);
    }

    private static void endIsComeTo() {
        Check.sentence("as with a next line, this is come to when one more pulse is to be made.");
        for (String program : new String[] {"X3M2", "X3", "X3\n", "X3\nM2", "X3\n\nG0\n", "X3M2\nY9"}) {
            PulsePlotter p = Check.loaded(program);
            Check.due(Check.show(program) + ": run(3)", p.run(3), 3);
            Check.due(Check.show(program) + ", run(3): state()", p.state(), 0);
            Check.due(Check.show(program) + ", run(3): line()", p.line(), 1);
            p.run(0);
            p.run(-1);
            Check.due(Check.show(program) + ", run(0): state()", p.state(), 0);
            Check.due(Check.show(program) + ": run(1)", p.run(1), 0);
            Check.due(Check.show(program) + ", run(1): state()", p.state(), 100);
        }
    }

    private static void machineStaysWithAFault() {
        Check.sentence("With a fault (101 to 107) the machine stays, and nothing more is done");
        String[] faulty = {"?", "G4", "X1X1", "I1", "F0", "G2I1X1", "X201"};
        for (int k = 0; k < faulty.length; k++) {
            PulsePlotter p = Check.loaded("F2G1X3Y-2\n" + faulty[k] + "\nX9Y9\nM2");
            Check.due(faulty[k] + ": run", p.run(Check.ALL), 3);
            String stays = Check.standing(p);
            int mode = faulty[k].startsWith("G2") ? 2 : 1;
            Check.due(faulty[k], stays, "state " + (101 + k)
                    + " at 3,-2 time 1500000 pulses 3 last 6 line 2 feed 2 mode " + mode + " left 0");
            for (int n : new int[] {1, 0, -1, 7, Check.ALL}) {
                Check.due(faulty[k] + ": run(" + n + ") behind the fault", p.run(n), 0);
                Check.due(faulty[k] + ", run(" + n + ") behind the fault", Check.standing(p), stays);
            }
        }
    }

    private static void dueSettings(String program, int feed, int mode) {
        PulsePlotter p = Check.ran(program);
        Check.due(Check.show(program) + ": feedRate()", p.feedRate(), feed);
        Check.due(Check.show(program) + ": mode()", p.mode(), mode);
    }

    private static void settingsOfMachineFaults() {
        Check.sentence("(what F and G of a line with 104 to 107 have set,"
                + " or with 105 for want of a feed, stays set");
        dueSettings("F9G91G1I1", 9, 5);
        dueSettings("X1F9G91G3", 9, 7);
        dueSettings("G91G1X1", 0, 5);
        dueSettings("G2G91I1", 0, 6);
        dueSettings("F9G91G3I0", 9, 7);
        dueSettings("F9G91G2I5X1", 9, 6);
        dueSettings("F9G91G1X201", 9, 5);
        dueSettings("F9G91X201", 9, 4);
        dueSettings("F9G91G3I201", 9, 7);
        dueSettings("F7G91G3\nF9G90G0X201", 9, 0);
        dueSettings("F7G91G3\nF9G90G1I1", 9, 1);
    }

    private static void settingsOfWordFaults() {
        Check.sentence("a line with another fault sets nothing)");
        for (String faulty : new String[] {"?", "X", "G", "G4", "M3", "X1X1", "G1", "G91", "F1", "M2M2"}) {
            dueSettings("F9G91G1" + faulty, 0, 0);
            dueSettings("F7G91G3\nF9G90G1" + faulty, 7, 7);
        }
        for (String feed : new String[] {"F0", "F10001", "F"}) {
            dueSettings("G91G1" + feed, 0, 0);
            dueSettings(feed + "G91G1", 0, 0);
            dueSettings("F7G91G3\nG90G1" + feed, 7, 7);
        }
    }

    public static void main(String[] args) {
        faultyLineDoesNothing();
        machineAtFirst();
        settingsOfALine();
        settingsStay();
        lettersForMode();
        lineWithoutMove();
        goal();
        wantOfFeed();
        limitsOfStraightMoves();
        straightMoveToHere();
        directionsOfArcs();
        centre();
        notOnTheCircle();
        limitsOfCircles();
        allTheWayRound();
        endWithM();
        endBehindTheLastLine();
        endIsComeTo();
        machineStaysWithAFault();
        settingsOfMachineFaults();
        settingsOfWordFaults();
        Check.finish();
    }
}
