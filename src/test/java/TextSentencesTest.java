/** The sentences on the text, its lines and words, and the faults 101, 102, 103 and 105 of a word. */
public final class TextSentencesTest {
    private static final String[] SIGNED = {"X", "Y", "I", "J"};

    private TextSentencesTest() {
    }

    /** A line in which the letter's number is 5 or -5 and nothing is wrong but what is put for the number. */
    private static String withNumber(String letter, String number) {
        return letter.equals("I") || letter.equals("J") ? "G2F1" + letter + number : letter + number;
    }

    private static void textIsFull() {
        Check.sentence("The TEXT has at most 400 characters");
        PulsePlotter p = new PulsePlotter();
        for (int size = 0; size < 396; size++) {
            Check.due("feed of a blank at " + size, p.feed(' '), 1);
        }
        Check.due("feed of the last four", p.feed(Check.pack("X123", 0)), 4);
        Check.due("feed of a 401st", p.feed('4'), -1);
        Check.due("run", p.run(Check.ALL), 123);
        Check.dueEnd(" ".repeat(398) + "X7", 7, 0);
        Check.dueEnd("X7" + " ".repeat(396) + "Y9", 7, 9);
        Check.dueEnd("\n".repeat(398) + "X7", 7, 0);
    }

    private static void codesOfTheText() {
        Check.sentence("characters with codes 1 .. 255");
        PulsePlotter p = new PulsePlotter();
        for (int code = 1; code <= 255; code++) {
            Check.due("feed(" + code + ")", p.feed(code), 1);
        }
        for (int code : new int[] {1, 127, 128, 254, 255}) {
            PulsePlotter four = new PulsePlotter();
            Check.due("four of code " + code, four.feed(code * 0x01010101), 4);
            four.run(1);
            Check.due("four of code " + code + ": state()", four.state(), 101);
        }
    }

    private static void linesAreCut() {
        Check.sentence("cut into LINES by the code 10");
        Check.dueEnd("X1\nX3\nX2", 2, 0);
        Check.due("two lines: pulses()", Check.ran("X3\nX2").pulses(), 4);
        Check.due("two lines: line()", Check.ran("X3\nX2").line(), 2);
        for (int code = 1; code <= 255; code++) {
            boolean joins = code == 10 || code == ' ' || code >= '0' && code <= '9';
            if (!joins) {
                PulsePlotter p = Check.ran("Y3" + (char) code + "X2");
                Check.due("code " + code + " between words: line()", p.line(), 1);
                Check.due("code " + code + " between words: state()", p.state(), 101);
            }
        }
        Check.dueState(101, "X\n1", "X1\r\nX2", "X-\n1");
    }

    private static void newlineAtTheEnd() {
        Check.sentence("one at the end of the text begins no further line");
        Check.due("no newline at the end: line()", Check.ran("X1").line(), 1);
        Check.due("a newline at the end: line()", Check.ran("X1\n").line(), 1);
        Check.due("two at the end: line()", Check.ran("X1\n\n").line(), 2);
        Check.due("a blank behind it: line()", Check.ran("X1\n ").line(), 2);
        Check.due("a newline alone: line()", Check.ran("\n").line(), 1);
        Check.due("two alone: line()", Check.ran("\n\n").line(), 2);
        Check.due("400 newlines: line()", Check.ran("\n".repeat(400)).line(), 400);
        Check.due("399 and a blank: line()", Check.ran("\n".repeat(399) + " ").line(), 400);
        PulsePlotter p = Check.ran("X1\n");
        p.feed('Y' | '4' << 8);
        Check.due("more text behind it: run", p.run(Check.ALL), 5);
        Check.due("more text behind it: line()", p.line(), 2);
    }

    private static void emptyText() {
        Check.sentence("the empty text has no lines");
        PulsePlotter p = new PulsePlotter();
        Check.due("no text: run(1)", p.run(1), 0);
        Check.due("no text", Check.standing(p),
                "state 100 at 0,0 time 0 pulses 0 last 4 line 0 feed 0 mode 0 left 0");
        PulsePlotter cleared = Check.ran("X1\nY1\n");
        cleared.clear();
        cleared.run(1);
        Check.due("text cleared: line()", cleared.line(), 0);
        Check.due("text cleared: state()", cleared.state(), 100);
        Check.due("one blank: line()", Check.ran(" ").line(), 1);
    }

    private static void blanksAreLeftOut() {
        Check.sentence("Blanks (32) are left out everywhere, also inside numbers.");
        PulsePlotter p = Check.ran("  G 9 1  G  0 1 F 1 0 0 0 0 X - 0 1 2 Y +  7 M 0 2  \nX9");
        Check.due("blanks in every gap", Check.standing(p),
                "state 100 at -12,7 time 1200 pulses 12 last 2 line 1 feed 10000 mode 5 left 0");
        Check.dueEnd("X 1 2", 12, 0);
        Check.dueEnd("X1 \n Y2 ", 1, 2);
        Check.dueEnd("X" + " ".repeat(397) + "1" + " ", 1, 0);
        Check.due("a line of blanks: line()", Check.ran("   \nX1", 1).line(), 2);
        Check.due("blanks alone: line()", Check.ran("   ").line(), 1);
        Check.dueState(100, " ", "    ", " \n ", "F 0 0 0 0 1", "X0 0 0 1");
        Check.dueState(101, "X0 0 0 0 1", "X 1 2 3 4 5", "G 0 0 1", "M0 0 2", "F 0 0 0 0 0 1", "X ", "X - ", "X + - 1");
    }

    private static void onlyCode32IsBlank() {
        Check.sentence("Blanks (32)");
        for (int code : new int[] {1, 9, 11, 12, 13, 31, 33, 127, 160, 255}) {
            Check.dueState(101, (char) code + "X1", "X" + (char) code + "1", "X1" + (char) code, "" + (char) code);
        }
    }

    private static void lettersOfWords() {
        Check.sentence("a word is one of the letters G M X Y I J F and a number");
        for (int code = 1; code <= 255; code++) {
            int want = 101;
            switch (code) {
                case 'G', 'X', 'Y', 'F' -> want = 100;
                case 'M' -> want = 102;
                case 'I', 'J' -> want = 104;
                default -> { }
            }
            Check.dueState(want, (char) code + "1");
        }
        Check.dueState(100, "", "\n", "G1F1X1Y1M2", "G2F1I1J1X2Y2");
    }

    private static void numbersOfDistances() {
        Check.sentence("for X Y I J an optional + or - and one to four digits");
        for (String letter : SIGNED) {
            for (String good : new String[] {"5", "+5", "-5", "05", "005", "0005", "+0005", "-0005", "0", "-0"}) {
                int want = good.endsWith("0") && !letter.equals("X") && !letter.equals("Y") ? 106 : 100;
                Check.dueState(want, withNumber(letter, good), withNumber(letter, good + "G90"));
            }
            for (String bad : new String[] {"", "+", "-", "00005", "+00005", "-00005", "12345", "00000", "+-5", "-+5",
                "++5", "--5", "5+", "5-", "5.0", ".5", "5,", "/", ":"}) {
                Check.dueState(101, withNumber(letter, bad), withNumber(letter, bad) + "G90");
            }
            for (String far : new String[] {"1000", "9999", "+9999", "-9999"}) {
                Check.dueState(107, withNumber(letter, far));
            }
        }
        Check.dueEnd("X0012Y-0034", 12, -34);
        Check.dueEnd("X+0012Y-34", 12, -34);
        Check.dueEnd("X-0Y+0", 0, 0);
        Check.duePlaces("G3F1I+01J-01", 0, "0,-1 0,-2 1,-2 2,-2 2,-1 2,0 1,0 0,0");
    }

    private static void numbersOfCodes() {
        Check.sentence("for G and M one or two digits");
        Check.dueState(100, "G1", "G01", "G91", "M2", "M02");
        Check.dueState(101, "G", "GX1", "G001", "G000", "G091", "G911", "M", "MX1", "M002", "M020", "M222");
        Check.dueState(101, "G+1", "G-1", "G-0", "M+2", "M-2");
    }

    private static void numbersOfFeed() {
        Check.sentence("for F one to five digits");
        Check.due("F7: feedRate()", Check.ran("F7").feedRate(), 7);
        Check.due("F12: feedRate()", Check.ran("F12").feedRate(), 12);
        Check.due("F00007: feedRate()", Check.ran("F00007").feedRate(), 7);
        Check.due("F10000: feedRate()", Check.ran("F10000").feedRate(), 10000);
        Check.dueState(101, "F", "FX1", "F000007", "F010000", "F100000", "F123456", "F4294967297");
        Check.dueState(101, "F+7", "F-7", "F7.5");
    }

    private static void leftToRight() {
        Check.sentence("From left to right the first of these faults counts");
        String[] faulty = {"?", "X12345", "G4", "M3", "Y1Y1", "G0G1", "F0", "F10001"};
        int[] faults = {101, 101, 102, 102, 103, 103, 105, 105};
        for (int first = 0; first < faulty.length; first++) {
            for (int second = 0; second < faulty.length; second++) {
                Check.dueState(faults[first], faulty[first] + faulty[second], faulty[first] + "J1" + faulty[second]);
            }
            // What the machine would refuse is not come to in a line with such a fault.
            Check.dueState(faults[first], "I1" + faulty[first], "X999" + faulty[first], faulty[first] + "\n?");
        }
        Check.dueState(101, "X999X", "X1X");
        Check.dueState(103, "X1X2?");
    }

    private static void somethingElse() {
        Check.sentence("101 something else stands there");
        Check.dueState(101, "1", "+1", "-", "X1 5Z", "x1", "g1", "m2", "f1", "i1", "X1.5", "(X1)", "X1;", "N10", "Z1",
                "XX1", "XY1", "X1Y", "G1G", "%", "X1\u0001", "X1\u00ff", "\u00d81");
    }

    private static void digits() {
        Check.sentence("or a number has too few or too many digits");
        String[] letters = {"G", "M", "X", "Y", "I", "J", "F"};
        int[] most = {2, 2, 4, 4, 4, 4, 5};
        for (int k = 0; k < letters.length; k++) {
            for (int count = 0; count <= 400 - 4; count++) {
                // Zeros, so that no other fault comes from the number's size, and so many that it would wrap around.
                int state = Check.ran(letters[k] + "0".repeat(count)).state();
                boolean wrong = count < 1 || count > most[k];
                Check.due(letters[k] + " with " + count + " digits is 101", state == 101 ? 1 : 0, wrong ? 1 : 0);
            }
            Check.dueState(101, letters[k] + "4294967296", letters[k] + "4294967298", letters[k] + "9".repeat(300));
            Check.dueState(101, letters[k], letters[k] + "X1", "Y1" + letters[k], letters[k] + "\n1");
        }
    }

    private static void numbersOfGAndM() {
        Check.sentence("102 the number of G is not 0, 1, 2, 3, 90, 91, or that of M not 2");
        for (int number = 0; number <= 99; number++) {
            boolean known = number <= 3 || number == 90 || number == 91;
            String two = (number < 10 ? "0" : "") + number;
            Check.dueState(known ? 100 : 102, "G" + number, "G" + two);
            Check.dueState(number == 2 ? 100 : 102, "M" + number, "M" + two);
        }
    }

    private static void letterTwice() {
        Check.sentence("103 X, Y, I, J, F or M for the second time in the line");
        for (String letter : new String[] {"X", "Y", "I", "J", "F", "M"}) {
            String word = letter + "2";
            Check.dueState(103, word + word, word + "G0" + word, word + word + word, word + letter + "02");
            for (String other : new String[] {"X", "Y", "I", "J", "F", "M"}) {
                if (!other.equals(letter)) {
                    Check.dueState(103, word + other + "2" + word, other + "2" + word + word);
                    Check.due(word + other + "2 is no second time",
                            Check.ran(word + other + "2").state() == 103 ? 1 : 0, 0);
                }
            }
        }
        Check.dueState(103, "X1X2", "Y0Y-0", "I1I-1", "J3J4", "F1F2");
        Check.dueState(100, "X1\nX2", "F1\nF1", "Y1\nY1\nM2");
    }

    private static void motionTwice() {
        Check.sentence("or one of G0 to G3 for the second time (the same or another)");
        for (int first = 0; first <= 3; first++) {
            for (int second = 0; second <= 3; second++) {
                Check.dueState(103, "G" + first + "G" + second, "G" + first + "X1G0" + second);
                Check.dueState(100, "G" + first + "\nG" + second);
            }
            for (int distances = 90; distances <= 91; distances++) {
                Check.dueState(100, "G" + first + "G" + distances, "G" + distances + "G" + first);
                Check.dueState(103, "G" + first + "G" + distances + "G" + first);
            }
        }
    }

    private static void distancesTwice() {
        Check.sentence("or one of G90 and G91");
        for (int first = 90; first <= 91; first++) {
            for (int second = 90; second <= 91; second++) {
                Check.dueState(103, "G" + first + "G" + second, "G" + first + "G1X1G" + second);
                Check.dueState(100, "G" + first + "\nG" + second);
            }
        }
    }

    private static void feedOutOfRange() {
        Check.sentence("105 the number of F is not 1 .. 10000");
        Check.dueState(105, "F0", "F00", "F00000", "F10001", "F10010", "F20000", "F99999", "G1X1F0");
        for (int feed : new int[] {1, 2, 9999, 10000}) {
            PulsePlotter p = Check.ran("F" + feed);
            Check.due("F" + feed + ": state()", p.state(), 100);
            Check.due("F" + feed + ": feedRate()", p.feedRate(), feed);
        }
    }

    private static void faultsOfOneWord() {
        Check.sentence("(For one word: 101 before 102 before 103 before 105.)");
        // 101 before 102, before 103, before 105.
        Check.dueState(101, "G400", "G044", "M300", "X1X", "X1X12345", "M2M", "G1G001", "G90G091");
        Check.dueState(101, "F000000", "F100001");
        // 102 before 103.
        Check.dueState(102, "M2M3", "M2M0", "G1G4", "G90G92", "G91G89");
        // 103 before 105.
        Check.dueState(103, "F1F0", "F1F10001", "F5F99999");
        // All of 101, 103 and 105 in one word.
        Check.dueState(101, "F1F000000", "F1F999999");
    }

    public static void main(String[] args) {
        textIsFull();
        codesOfTheText();
        linesAreCut();
        newlineAtTheEnd();
        emptyText();
        blanksAreLeftOut();
        onlyCode32IsBlank();
        lettersOfWords();
        numbersOfDistances();
        numbersOfCodes();
        numbersOfFeed();
        leftToRight();
        somethingElse();
        digits();
        numbersOfGAndM();
        letterTwice();
        motionTwice();
        distancesTwice();
        feedOutOfRange();
        faultsOfOneWord();
        Check.finish();
    }
}
