/** What the tests share: counting wrong answers, and handing a program to a plotter. */
final class Check {
    private static final int MOST_SHOWN = 40;

    private static int wrong = 0;
    private static int checked = 0;

    private Check() {
    }

    static void due(String call, long got, long want) {
        checked++;
        if (got != want) {
            wrong++;
            if (wrong <= MOST_SHOWN) {
                System.out.println(call + " answered " + got + ", due is " + want);
            }
        }
    }

    /** Packs up to four characters of the text, from start on, as feed takes them. */
    static int pack(String text, int start) {
        int packed = 0;
        for (int i = 0; i < 4 && start + i < text.length(); i++) {
            packed |= text.charAt(start + i) << 8 * i;
        }
        return packed;
    }

    static void load(PulsePlotter plotter, String program) {
        for (int start = 0; start < program.length(); start += 4) {
            int want = Math.min(4, program.length() - start);
            due(show(program) + ": feed at " + start, plotter.feed(pack(program, start)), want);
        }
    }

    static PulsePlotter loaded(String program) {
        PulsePlotter plotter = new PulsePlotter();
        load(plotter, program);
        return plotter;
    }

    static String show(String program) {
        return "\"" + program.replace("\n", "\\n") + "\"";
    }

    static void finish() {
        System.out.println(wrong == 0 ? checked + " answers are as due" : wrong + " answers are not as due");
        if (wrong != 0) {
            System.exit(1);
        }
    }
}
