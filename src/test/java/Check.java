/** What the tests share: counting wrong answers, handing a program to a plotter, and asking for all its answers. */
final class Check {
    /** More pulses than any program makes. */
    static final int ALL = Integer.MAX_VALUE;

    /** How many wrong answers are shown of one sentence, so that the other sentences can be seen too. */
    private static final int MOST_SHOWN = 10;

    private static int wrong = 0;
    private static int checked = 0;
    private static int sentences = 0;
    private static String sentence = "";
    private static int wrongBefore = 0;
    private static int checkedBefore = 0;

    private Check() {
    }

    /** Begins the test of one sentence of the document; wrong answers are told under its words. */
    static void sentence(String words) {
        endSentence();
        sentences++;
        sentence = words;
        wrongBefore = wrong;
        checkedBefore = checked;
    }

    private static void endSentence() {
        if (!sentence.isEmpty() && checked == checkedBefore) {
            tellWrong("nothing was checked");
        }
    }

    private static void tellWrong(String what) {
        wrong++;
        if (wrong - wrongBefore <= MOST_SHOWN) {
            System.out.println(sentence.isEmpty() ? what : "\"" + sentence + "\": " + what);
        }
    }

    static void due(String call, long got, long want) {
        checked++;
        if (got != want) {
            tellWrong(call + " answered " + got + ", due is " + want);
        }
    }

    static void due(String call, String got, String want) {
        checked++;
        if (!got.equals(want)) {
            tellWrong(call + " answered " + got + ", due is " + want);
        }
    }

    /** Packs up to four characters of the text, from start on, as feed takes them. */
    static int pack(String text, int start) {
        int packed = 0;
        for (int i = 0; i < 4 && start + i < text.length(); i++) {
            packed |= text.charAt(start + i) << 8 * i;
        }
        return packed;
    }

    static void load(PulsePlotter plotter, String program) {
        for (int start = 0; start < program.length(); start += 4) {
            int want = Math.min(4, program.length() - start);
            due(show(program) + ": feed at " + start, plotter.feed(pack(program, start)), want);
        }
    }

    static PulsePlotter loaded(String program) {
        PulsePlotter plotter = new PulsePlotter();
        load(plotter, program);
        return plotter;
    }

    /** A new object that has run the whole program. */
    static PulsePlotter ran(String program) {
        return ran(program, ALL);
    }

    static PulsePlotter ran(String program, int n) {
        PulsePlotter plotter = loaded(program);
        plotter.run(n);
        return plotter;
    }

    static String show(String program) {
        StringBuilder shown = new StringBuilder("\"");
        for (int i = 0; i < program.length(); i++) {
            char code = program.charAt(i);
            if (code == '\n') {
                shown.append("\\n");
            } else if (code < 32 || code > 126) {
                shown.append("\\[").append((int) code).append(']');
            } else {
                shown.append(code);
            }
        }
        return shown.append('"').toString();
    }

    /** All ten answers that a plotter gives without being changed. */
    static String standing(PulsePlotter p) {
        return "state " + p.state() + " at " + p.x() + "," + p.y() + " time " + p.time() + " pulses " + p.pulses()
                + " last " + p.last() + " line " + p.line() + " feed " + p.feedRate() + " mode " + p.mode()
                + " left " + p.left();
    }

    static void dueAtFirst(String when, PulsePlotter p) {
        due(when, standing(p), "state 0 at 0,0 time 0 pulses 0 last 4 line 0 feed 0 mode 0 left 0");
    }

    /** Runs each program to its end or fault, and compares the state there. */
    static void dueState(int state, String... programs) {
        for (String program : programs) {
            PulsePlotter p = loaded(program);
            due(show(program) + ": state() before run", p.state(), 0);
            p.run(ALL);
            due(show(program) + ": state()", p.state(), state);
        }
    }

    /** Runs the program to its end, without a fault, and compares the place there. */
    static void dueEnd(String program, int x, int y) {
        PulsePlotter p = ran(program);
        due(show(program) + ": state()", p.state(), 100);
        due(show(program) + ": x()", p.x(), x);
        due(show(program) + ": y()", p.y(), y);
    }

    /** Compares the places behind the first pulses, at one go and pulse by pulse, told as "x,y x,y ..". */
    static void duePlaces(String program, int skip, String places) {
        int k = skip;
        PulsePlotter stepped = ran(program, skip);
        for (String place : places.split(" ")) {
            k++;
            PulsePlotter p = ran(program, k);
            due(show(program) + ", run(" + k + "): place", p.x() + "," + p.y(), place);
            due(show(program) + ", run(" + k + "): pulses()", p.pulses(), k);
            due(show(program) + " by 1: run(1)", stepped.run(1), 1);
            due(show(program) + " by 1, " + k + " pulses: place", stepped.x() + "," + stepped.y(), place);
        }
        due(show(program) + ": pulses() in all", ran(program).pulses(), k);
    }

    static void finish() {
        endSentence();
        String what = sentences > 0 ? sentences + " sentences, " : "";
        System.out.println(what + (wrong == 0 ? checked + " answers are as due" : wrong + " answers are not as due"));
        if (wrong != 0) {
            System.exit(1);
        }
    }
}
