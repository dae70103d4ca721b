import java.util.ArrayDeque;
import java.util.ArrayList;
import java.util.Comparator;
import java.util.LinkedHashSet;
import java.util.List;
import java.util.Set;
import java.util.regex.Matcher;
import java.util.regex.Pattern;

/**
 * The document once more, as near to its words as can be and pulse by pulse, to compare the plotter with.
 * It shares no code and no short cut with the plotter.
 */
final class Reference {
    private static final Pattern WORD = Pattern.compile("(?:([XYIJ])([+-]?)|([GMF]))([0-9]*)");

    String text = "";
    int state;
    int x;
    int y;
    long time;
    int pulses;
    int last;
    int line;
    int feedRate;
    int motion;
    boolean relative;
    final ArrayDeque<int[]> ahead = new ArrayDeque<>();
    private boolean ending;

    Reference() {
        begin();
    }

    int feed(int w) {
        StringBuilder more = new StringBuilder();
        for (int code : new int[] {w & 255, w >> 8 & 255, w >> 16 & 255, w >> 24 & 255}) {
            if (code == 0) {
                break;
            }
            more.append((char) code);
        }
        if (text.length() + more.length() > 400) {
            return -1;
        }
        text += more;
        begin();
        return more.length();
    }

    void clear() {
        text = "";
        begin();
    }

    void begin() {
        state = 0;
        x = 0;
        y = 0;
        time = 0;
        pulses = 0;
        last = 4;
        line = 0;
        feedRate = 0;
        motion = 0;
        relative = false;
        ahead.clear();
        ending = false;
    }

    int mode() {
        return motion + (relative ? 4 : 0);
    }

    int run(int n) {
        int made = 0;
        while (made < n && state == 0) {
            if (ahead.isEmpty()) {
                lookAtNextLine();
            } else {
                makePulse(ahead.poll());
                made++;
            }
        }
        return made;
    }

    private void makePulse(int[] place) {
        last = 3 * (place[0] - x + 1) + place[1] - y + 1;
        x = place[0];
        y = place[1];
        pulses++;
        time += motion == 0 ? 100 : 1000000 / feedRate + (1000000 % feedRate == 0 ? 0 : 1);
    }

    List<String> lines() {
        List<String> lines = new ArrayList<>();
        StringBuilder one = new StringBuilder();
        for (int i = 0; i < text.length(); i++) {
            if (text.charAt(i) == 10) {
                lines.add(one.toString());
                one.setLength(0);
            } else {
                one.append(text.charAt(i));
            }
        }
        if (!text.isEmpty() && text.charAt(text.length() - 1) != 10) {
            lines.add(one.toString());
        }
        return lines;
    }

    private void lookAtNextLine() {
        List<String> lines = lines();
        if (ending || line == lines.size()) {
            state = 100;
            return;
        }
        line++;
        List<String> kept = new ArrayList<>();
        state = readWords(lines.get(line - 1).replace(" ", ""), kept);
        if (state == 0) {
            state = act(kept);
        }
    }

    private static int readWords(String row, List<String> kept) {
        Matcher matcher = WORD.matcher(row);
        int at = 0;
        Set<String> seen = new LinkedHashSet<>();
        while (at < row.length()) {
            matcher.region(at, row.length());
            if (!matcher.lookingAt()) {
                return 101;
            }
            char letter = row.charAt(at);
            String digits = matcher.group(4);
            int most = letter == 'F' ? 5 : letter == 'G' || letter == 'M' ? 2 : 4;
            if (digits.isEmpty() || digits.length() > most) {
                return 101;
            }
            int number = Integer.parseInt(digits);
            if (letter == 'G' && !List.of(0, 1, 2, 3, 90, 91).contains(number) || letter == 'M' && number != 2) {
                return 102;
            }
            String kind = letter == 'G' ? (number < 4 ? "motion" : "distances") : "" + letter;
            if (!seen.add(kind)) {
                return 103;
            }
            if (letter == 'F' && (number < 1 || number > 10000)) {
                return 105;
            }
            kept.add(letter + ("-".equals(matcher.group(2)) ? "-" : "") + number);
            at = matcher.end();
        }
        return 0;
    }

    private static Integer find(List<String> kept, char letter) {
        for (String word : kept) {
            if (word.charAt(0) == letter) {
                return Integer.parseInt(word.substring(1));
            }
        }
        return null;
    }

    private int act(List<String> kept) {
        for (String word : kept) {
            int number = Integer.parseInt(word.substring(1));
            if (word.charAt(0) == 'F') {
                feedRate = number;
            } else if (word.charAt(0) == 'G' && number < 4) {
                motion = number;
            } else if (word.charAt(0) == 'G') {
                relative = number == 91;
            } else if (word.charAt(0) == 'M') {
                ending = true;
            }
        }
        Integer wx = find(kept, 'X');
        Integer wy = find(kept, 'Y');
        Integer wi = find(kept, 'I');
        Integer wj = find(kept, 'J');
        if ((wi != null || wj != null) && motion < 2) {
            return 104;
        }
        if ((wx != null || wy != null) && wi == null && wj == null && motion > 1) {
            return 104;
        }
        if (wx == null && wy == null && wi == null && wj == null) {
            return 0;
        }
        if (motion != 0 && feedRate == 0) {
            return 105;
        }
        int goalX = wx == null ? x : relative ? x + wx : wx;
        int goalY = wy == null ? y : relative ? y + wy : wy;
        if (motion < 2) {
            return goStraight(goalX, goalY);
        }
        return goRound(goalX, goalY, wi == null ? 0 : wi, wj == null ? 0 : wj);
    }

    private static boolean within(int a, int b) {
        return a >= -200 && a <= 200 && b >= -200 && b <= 200;
    }

    private int goStraight(int goalX, int goalY) {
        if (!within(goalX, goalY)) {
            return 107;
        }
        int dx = goalX - x;
        int dy = goalY - y;
        int n = Math.max(Math.abs(dx), Math.abs(dy));
        for (int k = 1; k <= n; k++) {
            int px = x + (int) Math.floor((2.0 * k * dx + n) / (2.0 * n));
            int py = y + (int) Math.floor((2.0 * k * dy + n) / (2.0 * n));
            ahead.add(new int[] {px, py});
        }
        return 0;
    }

    private int goRound(int goalX, int goalY, int i, int j) {
        long r = (long) i * i + (long) j * j;
        int cx = x + i;
        int cy = y + j;
        long away = (long) (goalX - cx) * (goalX - cx) + (long) (goalY - cy) * (goalY - cy);
        if (r == 0 || away != r) {
            return 106;
        }
        List<int[]> points = circle(r);
        for (int[] point : points) {
            if (!within(cx + point[0], cy + point[1])) {
                return 107;
            }
        }
        int at = 0;
        while (cx + points.get(at)[0] != x || cy + points.get(at)[1] != y) {
            at++;
        }
        do {
            at = (at + (motion == 3 ? 1 : points.size() - 1)) % points.size();
            ahead.add(new int[] {cx + points.get(at)[0], cy + points.get(at)[1]});
        } while (cx + points.get(at)[0] != goalX || cy + points.get(at)[1] != goalY);
        return 0;
    }

    static int w(long r, long u) {
        long four = 4 * (r - u * u);
        if (four < 1) {
            return 0;
        }
        int w = Math.max(0, (int) Math.sqrt((double) (r - u * u)) - 2);
        while (!((2L * w - 1) * (2L * w - 1) <= four && four < (2L * w + 1) * (2L * w + 1))) {
            w++;
        }
        return w;
    }

    /** The points of the circle of r, in counterclockwise order. */
    static List<int[]> circle(long r) {
        Set<List<Integer>> points = new LinkedHashSet<>();
        int m = 0;
        while (2L * (m + 1) * (m + 1) <= r) {
            m++;
        }
        for (int u = -m; u <= m; u++) {
            int w = w(r, u);
            points.add(List.of(u, w));
            points.add(List.of(u, -w));
            points.add(List.of(w, u));
            points.add(List.of(-w, u));
        }
        if (w(r, m) == m + 2) {
            for (int sx : new int[] {m + 1, -m - 1}) {
                points.add(List.of(sx, m + 1));
                points.add(List.of(sx, -m - 1));
            }
        }
        List<int[]> sorted = new ArrayList<>();
        for (List<Integer> point : points) {
            sorted.add(new int[] {point.get(0), point.get(1)});
        }
        sorted.sort(Comparator.comparingDouble((int[] p) -> Math.atan2(p[1], p[0])));
        return sorted;
    }
}
