import java.util.ArrayList;
import java.util.HashMap;
import java.util.List;
import java.util.Map;
import java.util.PriorityQueue;
import java.util.Random;

/**
 * Long runs of drawn calls (always the same ones), each answered by StraightTax and by a plain model
 * that is written from the document in another way: step by step, with maps, lists and whole paths.
 */
public final class AgainstPlain {
    private static final int RUNS = 700;
    /** As many as an object is used for. */
    private static final int CALLS = 512;
    private static int wrong = 0;

    public static void main(String[] args) {
        for (int run = 0; run < RUNS && wrong < 20; run++) {
            new AgainstPlain(run).go();
        }
        System.out.println(wrong == 0 ? RUNS + " runs agree with the plain model" : wrong + " answers differ");
        if (wrong != 0) {
            System.exit(1);
        }
    }

    private final int run;
    private final Random draw;
    private final StraightTax x = new StraightTax();
    private final Plain plain = new Plain();
    private final List<String> calls = new ArrayList<>();
    private int left = CALLS;

    private AgainstPlain(int run) {
        this.run = run;
        this.draw = new Random(run * 7919L + 17);
    }

    private void due(String call, long got, long want) {
        left--;
        calls.add(call + " = " + want);
        if (got != want) {
            wrong++;
            System.out.println("run " + run + ": " + call + " answered " + got + ", due is " + want);
            System.out.println("  behind " + calls.subList(Math.max(0, calls.size() - 12), calls.size()));
        }
    }

    private void go() {
        if (draw.nextInt(8) != 0) {
            tell();
        }
        while (left > 0 && wrong < 20) {
            int which = draw.nextInt(100);
            if (which < 4) {
                tell();
            } else if (which < 50) {
                walk();
            } else if (which < 84) {
                ask();
            } else {
                look();
            }
        }
    }

    private int near(int low, int high) {
        return draw.nextInt(25) == 0 ? odd() : low + draw.nextInt(high - low + 1);
    }

    private int odd() {
        int[] odds = {-1, -2, -3, 5, 6, 9, 20, 21, 60, 100, Integer.MAX_VALUE, Integer.MIN_VALUE};
        return odds[draw.nextInt(odds.length)];
    }

    private int place() {
        int squares = plain.wide * plain.high;
        return draw.nextInt(40) == 0 ? squares : near(0, squares - 1);
    }

    // ---- texts

    private void tell() {
        String told = drawText();
        if (draw.nextInt(3) == 0) {
            told = spoil(told);
        }
        // No more calls than are left: each byte may be a call, and three come behind them.
        if (told.length() + 4 > left) {
            look();
            return;
        }
        type(told);
        due("count(5)", x.count(5), plain.text.length());
        int answer = plain.town();
        due("town() of '" + told + "'", x.town(), answer);
        due("count(5)", x.count(5), plain.text.length());
        if (answer < 0) {
            due("clear()", x.clear(), plain.text.length());
            plain.text = "";
        }
    }

    private String drawText() {
        StringBuilder told = new StringBuilder();
        int wide = 4;
        int high = 3;
        if (draw.nextInt(5) != 0) {
            wide = 2 + draw.nextInt(4);
            high = 1 + draw.nextInt(4);
            told.append("town ").append(wide).append(" ").append(high).append(";");
        }
        int things = draw.nextInt(8);
        boolean[] has = new boolean[20];
        for (int i = 0; i < things; i++) {
            int px = draw.nextInt(wide);
            int py = draw.nextInt(high);
            if (!has[py * wide + px] || draw.nextInt(10) == 0) {
                told.append(draw.nextInt(5) < 2 ? "elbow " : "house ").append(px).append(" ").append(py).append(";");
            }
            has[py * wide + px] = true;
        }
        if (draw.nextInt(5) != 0) {
            told.append("tax ").append(draw.nextInt(5) * draw.nextInt(2)).append(" ").append(1 + draw.nextInt(9))
                .append(" ").append(draw.nextInt(3)).append(";");
        }
        if (draw.nextInt(2) == 0) {
            told.append("double;");
        }
        if (draw.nextInt(2) == 0) {
            told.append("haste ").append(draw.nextInt(draw.nextInt(2) == 0 ? 2 : 10)).append(";");
        }
        return told.toString();
    }

    private String spoil(String told) {
        String[] bits = {" ", "  ", ";", "0", "1", "9", "10", "00", "100", "town", "town 3 3;", "double;", "tax 1 1 1;",
            "haste 3;", "house 1 0;", "elbow 1 0;", "x", "A", "\u00e9", "\u0000", "double", "5", "00000000000000000001",
            "99999999999999999999"};
        StringBuilder spoilt = new StringBuilder(told);
        for (int n = 1 + draw.nextInt(3); n > 0; n--) {
            int at = draw.nextInt(spoilt.length() + 1);
            switch (draw.nextInt(4)) {
                case 0: spoilt.insert(at, bits[draw.nextInt(bits.length)]); break;
                case 1: spoilt.delete(at, Math.min(spoilt.length(), at + 1 + draw.nextInt(3))); break;
                case 2: spoilt.append(bits[draw.nextInt(bits.length)]); break;
                default: spoilt.insert(at, " "); break;
            }
        }
        return spoilt.toString();
    }

    private void type(String told) {
        int at = 0;
        while (at < told.length()) {
            int n = Math.min(told.length() - at, 1 + draw.nextInt(8));
            long v = draw.nextInt(2) == 0 ? 0 : draw.nextLong();
            for (int i = 0; i < n; i++) {
                v = v << 8 | told.charAt(at + i);
            }
            due("type(" + v + ", " + n + ")", x.type(v, n), plain.type(v, n));
            at += n;
        }
    }

    // ---- calls

    private void walk() {
        int which = draw.nextInt(40);
        if (which < 3) {
            int c = place();
            due("stand(" + c + ")", x.stand(c), plain.stand(c));
        } else if (which < 30) {
            int d = near(0, 3);
            due("step(" + d + ")", x.step(d), plain.step(d));
        } else if (which < 34) {
            due("undo()", x.undo(), plain.undo());
        } else if (which < 36) {
            int is = near(0, 1);
            due("dusk(" + is + ")", x.dusk(is), plain.dusk(is));
        } else if (which < 38) {
            int image = near(0, 1);
            due("keep(" + image + ")", x.keep(image), plain.keep(image));
        } else {
            int image = near(0, 1);
            due("back(" + image + ")", x.back(image), plain.back(image));
        }
    }

    private void ask() {
        int a = place();
        int b = place();
        switch (draw.nextInt(11)) {
            case 0: {
                int steps = drawFigures();
                due("cost(" + a + ", " + steps + ")", x.cost(a, steps), plain.cost(a, steps));
                break;
            }
            case 1: case 2: {
                int i = near(-2, 9);
                due("cheapest(" + a + ", " + b + ", " + i + ")", x.cheapest(a, b, i), plain.cheapest(a, b, i));
                break;
            }
            case 3: {
                int pence = near(0, draw.nextInt(2) == 0 ? 12 : 200);
                due("quickest(" + a + ", " + b + ", " + pence + ")", x.quickest(a, b, pence), plain.quickest(a, b, pence));
                break;
            }
            case 4: case 5: {
                int i = near(-1, 3);
                int what = near(0, 1);
                due("line(" + a + ", " + b + ", " + i + ", " + what + ")", x.line(a, b, i, what), plain.line(a, b, i, what));
                break;
            }
            case 6:
                due("fewTurns(" + a + ", " + b + ")", x.fewTurns(a, b), plain.fewTurns(a, b));
                break;
            case 7: {
                int places = draw.nextInt(25) == 0 ? draw.nextInt() : drawPlaces();
                due("round(" + a + ", " + places + ")", x.round(a, places), plain.round(a, places));
                break;
            }
            case 8:
                if (draw.nextInt(12) == 0) {
                    due("home()", x.home(), plain.home());
                } else {
                    due("errand(" + a + ", " + b + ")", x.errand(a, b), plain.errand(a, b));
                }
                break;
            case 9: {
                int what = near(0, 1);
                if (draw.nextInt(4) == 0) {
                    due("help(" + what + ")", x.help(what), plain.help(what));
                }
                break;
            }
            default: {
                int n = near(0, draw.nextInt(6) == 0 ? 8 : 5);
                int pence = near(0, draw.nextInt(2) == 0 ? 6 : 60);
                due("fits(" + a + ", " + b + ", " + n + ", " + pence + ")", x.fits(a, b, n, pence), plain.fits(a, b, n, pence));
                break;
            }
        }
    }

    private int drawFigures() {
        if (draw.nextInt(20) == 0) {
            return draw.nextInt();
        }
        int steps = 0;
        for (int n = draw.nextInt(10); n > 0; n--) {
            steps = steps * 10 + (draw.nextInt(60) == 0 ? draw.nextInt(10) : 1 + draw.nextInt(4));
        }
        return steps;
    }

    private int drawPlaces() {
        int places = 0;
        for (int n = draw.nextInt(6); n > 0; n--) {
            places |= 1 << draw.nextInt(plain.wide * plain.high);
        }
        return places;
    }

    private void look() {
        int what = near(0, 5);
        switch (draw.nextInt(6)) {
            case 0: {
                int c = place();
                due("square(" + c + ")", x.square(c), plain.square(c));
                break;
            }
            case 1:
                due("law(" + what + ")", x.law(what), plain.law(what));
                break;
            case 2:
                due("one(" + what + ")", x.one(what), plain.one(what));
                break;
            case 3:
                due("count(" + what + ")", x.count(what), plain.count(what));
                break;
            case 4:
                due("rating(" + what + ")", x.rating(what), plain.rating(what));
                break;
            default:
                due("trace()", x.trace(), plain.trace);
                break;
        }
    }

    /** The document, taken word by word. */
    private static final class Plain {
        static final int BAD = -1, STATE = -2, FULL = -3, NONE = -9, NO = -1000000;
        static final String LETTERS = "nesw";

        String text = "";
        int wide = 4;
        int high = 3;
        int free = 1;
        int rate = 1;
        int form = 2;
        int haste = 0;
        boolean doubled = false;
        Map<Integer, String> on = new HashMap<>();
        boolean night = false;
        int stood = NONE;
        String path = "";
        List<Integer> fares = new ArrayList<>();
        List<int[]> errands = new ArrayList<>();
        Map<Integer, Object[]> images = new HashMap<>();
        long trace = 0;

        // ---- the town

        int type(long v, int n) {
            if (n < 1 || n > 8) {
                return BAD;
            }
            if (text.length() + n > 200) {
                return FULL;
            }
            for (int i = n - 1; i >= 0; i--) {
                text += (char) (v >>> 8 * i & 255);
            }
            return text.length();
        }

        /** A list of tokens and their places first, then items over it. */
        int town() {
            List<String> tokens = new ArrayList<>();
            List<Integer> places = new ArrayList<>();
            int i = 0;
            while (i < text.length()) {
                int from = i;
                char c = text.charAt(i);
                i++;
                if (c == ' ') {
                    continue;
                }
                if (c >= 'a' && c <= 'z') {
                    while (i < text.length() && text.charAt(i) >= 'a' && text.charAt(i) <= 'z') {
                        i++;
                    }
                } else if (c >= '0' && c <= '9') {
                    while (i < text.length() && text.charAt(i) >= '0' && text.charAt(i) <= '9') {
                        i++;
                    }
                }
                tokens.add(text.substring(from, i));
                places.add(from);
            }
            places.add(text.length());
            tokens.add("");
            Plain anew = new Plain();
            int[] at = {0};
            int items = anew.items(tokens, at);
            if (items < 0) {
                return -10 - places.get(at[0]);
            }
            wide = anew.wide;
            high = anew.high;
            free = anew.free;
            rate = anew.rate;
            form = anew.form;
            haste = anew.haste;
            doubled = anew.doubled;
            on = anew.on;
            text = "";
            night = false;
            stood = NONE;
            path = "";
            fares.clear();
            errands.clear();
            images.clear();
            return items;
        }

        /** How many items; -1: the token at[0] is the fault. */
        int items(List<String> tokens, int[] at) {
            List<String> told = new ArrayList<>();
            while (!tokens.get(at[0]).isEmpty()) {
                String word = tokens.get(at[0]);
                String[] forms;
                switch (word) {
                    case "town": forms = new String[] {"[2-5]", "[1-4]"}; break;
                    case "house": case "elbow": forms = new String[] {"[0-" + (wide - 1) + "]", "[0-" + (high - 1) + "]"}; break;
                    case "tax": forms = new String[] {"[0-4]", "[1-9]", "[0-2]"}; break;
                    case "double": forms = new String[] {}; break;
                    case "haste": forms = new String[] {"[0-9]"}; break;
                    default: return -1;
                }
                if (word.equals("town") && !told.isEmpty()) {
                    return -1;
                }
                if (told.contains(word) && !word.equals("house") && !word.equals("elbow")) {
                    return -1;
                }
                int[] numbers = new int[3];
                for (int k = 0; k < forms.length; k++) {
                    at[0]++;
                    if (!tokens.get(at[0]).matches(forms[k])) {
                        return -1;
                    }
                    numbers[k] = Integer.parseInt(tokens.get(at[0]));
                }
                int c = numbers[1] * wide + numbers[0];
                switch (word) {
                    case "town": wide = numbers[0]; high = numbers[1]; break;
                    case "tax": free = numbers[0]; rate = numbers[1]; form = numbers[2]; break;
                    case "double": doubled = true; break;
                    case "haste": haste = numbers[0]; break;
                    default:
                        if (on.containsKey(c)) {
                            return -1;
                        }
                        on.put(c, word);
                }
                at[0]++;
                if (!tokens.get(at[0]).equals(";")) {
                    return -1;
                }
                at[0]++;
                told.add(word);
            }
            return told.size();
        }

        boolean is(int c) {
            return c >= 0 && c < wide * high;
        }

        boolean open(int c) {
            return is(c) && !"house".equals(on.get(c));
        }

        int square(int c) {
            if (!is(c)) {
                return BAD;
            }
            return !on.containsKey(c) ? 0 : on.get(c).equals("house") ? 1 : 2;
        }

        int law(int what) {
            int[] all = {free, rate, form, doubled ? 1 : 0, haste, night ? 1 : 0};
            return what < 0 || what > 5 ? BAD : all[what];
        }

        // ---- steps

        /** Where a step leads, NONE if it can not be. */
        int to(int c, char d) {
            int px = c % wide + (d == 'e' ? 1 : d == 'w' ? -1 : 0);
            int py = c / wide + (d == 's' ? 1 : d == 'n' ? -1 : 0);
            boolean in = px >= 0 && px < wide && py >= 0 && py < high;
            return in && open(py * wide + px) ? py * wide + px : NONE;
        }

        /** Where a way ends, NONE if it can not be. */
        int end(int a, String way) {
            int c = a;
            for (int i = 0; i < way.length() && c != NONE; i++) {
                c = to(c, way.charAt(i));
            }
            return c;
        }

        int lastRun(int a, String way) {
            int r = 0;
            int c = a;
            for (int i = 0; i < way.length(); i++) {
                boolean goesOn = i > 0 && way.charAt(i) == way.charAt(i - 1) && !"elbow".equals(on.get(c));
                r = goesOn ? r + 1 : 1;
                c = to(c, way.charAt(i));
            }
            return r;
        }

        int fare(int r) {
            int tax = 0;
            if (r > free) {
                tax = form == 0 ? rate : form == 1 ? rate * (r - free) : rate * (r - free) * (r - free);
            }
            return haste + tax * (night && doubled ? 2 : 1);
        }

        int stand(int c) {
            if (!open(c)) {
                return BAD;
            }
            stood = c;
            path = "";
            fares.clear();
            return 1;
        }

        int step(int d) {
            if (d < 0 || d > 3) {
                return BAD;
            }
            if (stood == NONE || to(end(stood, path), LETTERS.charAt(d)) == NONE) {
                return STATE;
            }
            if (path.length() == 60) {
                return FULL;
            }
            path += LETTERS.charAt(d);
            int fare = fare(lastRun(stood, path));
            fares.add(fare);
            return fare;
        }

        int undo() {
            if (path.isEmpty()) {
                return STATE;
            }
            path = path.substring(0, path.length() - 1);
            return fares.remove(fares.size() - 1);
        }

        int paid() {
            int all = 0;
            for (int fare : fares) {
                all += fare;
            }
            return all;
        }

        int one(int what) {
            switch (what) {
                case 0: return stood == NONE ? NONE : end(stood, path);
                case 1: return paid();
                case 2: return lastRun(stood, path);
                case 3: return path.isEmpty() ? NONE : LETTERS.indexOf(path.charAt(path.length() - 1));
                case 4: return path.length();
                default: return BAD;
            }
        }

        int dusk(int is) {
            if (is != 0 && is != 1) {
                return BAD;
            }
            int was = night ? 1 : 0;
            night = is == 1;
            return was;
        }

        // ---- ways

        int price(int a, String way) {
            int all = 0;
            for (int i = 1; i <= way.length(); i++) {
                all += fare(lastRun(a, way.substring(0, i)));
            }
            return all;
        }

        int cost(int a, int steps) {
            String figures = steps == 0 ? "" : Integer.toString(steps);
            if (!open(a) || !figures.matches("[1-4]{0,9}")) {
                return BAD;
            }
            String way = figures.replace('1', 'n').replace('2', 'e').replace('3', 's').replace('4', 'w');
            for (int i = 0; i < way.length(); i++) {
                if (end(a, way.substring(0, i + 1)) == NONE) {
                    return -10 - i;
                }
            }
            return price(a, way);
        }

        /** A way with what it costs, as far as it goes. */
        final class Gone implements Comparable<Gone> {
            int c;
            char last = '-';
            int r = 0;
            int pence = 0;
            String way = "";

            Gone(int c) {
                this.c = c;
            }

            Gone on(char d) {
                int next = to(c, d);
                if (next == NONE) {
                    return null;
                }
                Gone gone = new Gone(next);
                gone.r = d == last && !"elbow".equals(on.get(c)) ? r + 1 : 1;
                gone.last = d;
                gone.pence = pence + fare(gone.r);
                gone.way = way + d;
                return gone;
            }

            String state() {
                return c + "/" + last + "/" + r;
            }

            @Override
            public int compareTo(Gone other) {
                if (pence != other.pence) {
                    return Integer.compare(pence, other.pence);
                }
                if (way.length() != other.way.length()) {
                    return Integer.compare(way.length(), other.way.length());
                }
                // n, e, s, w in their own order: by their places in LETTERS.
                for (int i = 0; i < way.length(); i++) {
                    int order = Integer.compare(LETTERS.indexOf(way.charAt(i)), LETTERS.indexOf(other.way.charAt(i)));
                    if (order != 0) {
                        return order;
                    }
                }
                return 0;
            }
        }

        Gone cheapestWay(int a, int b) {
            PriorityQueue<Gone> queue = new PriorityQueue<>();
            Map<String, Boolean> seen = new HashMap<>();
            queue.add(new Gone(a));
            while (!queue.isEmpty()) {
                Gone gone = queue.poll();
                if (gone.c == b) {
                    return gone;
                }
                if (seen.put(gone.state(), true) != null) {
                    continue;
                }
                for (char d : LETTERS.toCharArray()) {
                    Gone more = gone.on(d);
                    if (more != null) {
                        queue.add(more);
                    }
                }
            }
            return null;
        }

        int cheapest(int a, int b, int i) {
            if (!open(a) || !open(b) || i < -2) {
                return BAD;
            }
            Gone best = cheapestWay(a, b);
            if (best == null) {
                return NONE;
            }
            if (i == -2) {
                return best.pence;
            }
            if (i == -1) {
                return best.way.length();
            }
            return i < best.way.length() ? LETTERS.indexOf(best.way.charAt(i)) : -5;
        }

        /** For 0 .. 60 steps the least that a way costs, null if there is none. */
        List<Integer> leasts(int a, int b) {
            List<Integer> all = new ArrayList<>();
            Map<String, Gone> layer = new HashMap<>();
            layer.put("", new Gone(a));
            for (int s = 0; s <= 60; s++) {
                Integer least = null;
                Map<String, Gone> next = new HashMap<>();
                for (Gone gone : layer.values()) {
                    if (gone.c == b && (least == null || gone.pence < least)) {
                        least = gone.pence;
                    }
                    for (char d : LETTERS.toCharArray()) {
                        Gone more = gone.on(d);
                        if (more != null) {
                            more.way = "";
                            Gone there = next.get(more.state());
                            if (there == null || more.pence < there.pence) {
                                next.put(more.state(), more);
                            }
                        }
                    }
                }
                all.add(least);
                layer = next;
            }
            return all;
        }

        int quickest(int a, int b, int pence) {
            if (!open(a) || !open(b) || pence < 0) {
                return BAD;
            }
            List<Integer> all = leasts(a, b);
            for (int s = 0; s <= 60; s++) {
                if (all.get(s) != null && all.get(s) <= pence) {
                    return s;
                }
            }
            return NONE;
        }

        int line(int a, int b, int i, int what) {
            if (!open(a) || !open(b) || i < -1 || what < 0 || what > 1) {
                return BAD;
            }
            List<Integer> all = leasts(a, b);
            List<Integer> corners = new ArrayList<>();
            for (int s = 0; s <= 60; s++) {
                boolean less = all.get(s) != null;
                for (int fewer = 0; fewer < s; fewer++) {
                    less = less && (all.get(fewer) == null || all.get(s) < all.get(fewer));
                }
                if (less) {
                    corners.add(s);
                }
            }
            if (i == -1) {
                return corners.size();
            }
            if (i >= corners.size()) {
                return -5;
            }
            return what == 0 ? corners.get(i) : all.get(corners.get(i));
        }

        int fewTurns(int a, int b) {
            if (!open(a) || !open(b)) {
                return BAD;
            }
            int[][] least = new int[20][5];
            for (int[] row : least) {
                java.util.Arrays.fill(row, 999);
            }
            least[a][4] = 0;
            for (int again = 0; again < 100; again++) {
                for (int c = 0; c < wide * high; c++) {
                    for (int last = 0; last < 5; last++) {
                        for (int d = 0; d < 4 && least[c][last] < 999; d++) {
                            int to = to(c, LETTERS.charAt(d));
                            if (to != NONE) {
                                int turns = least[c][last] + (last == 4 || last == d ? 0 : 1);
                                least[to][d] = Math.min(least[to][d], turns);
                            }
                        }
                    }
                }
            }
            int fewest = 999;
            for (int last = 0; last < 5; last++) {
                fewest = Math.min(fewest, least[b][last]);
            }
            return fewest == 999 ? NONE : fewest;
        }

        int round(int a, int places) {
            if (!open(a) || Integer.bitCount(places) > 4) {
                return BAD;
            }
            List<Integer> stops = new ArrayList<>();
            for (int c = 0; c < 32; c++) {
                if ((places >>> c & 1) == 1) {
                    if (!open(c)) {
                        return BAD;
                    }
                    stops.add(c);
                }
            }
            int least = orders(a, a, stops);
            return least == Integer.MAX_VALUE ? NONE : least;
        }

        int orders(int at, int home, List<Integer> stops) {
            if (stops.isEmpty()) {
                Gone back = cheapestWay(at, home);
                return back == null ? Integer.MAX_VALUE : back.pence;
            }
            int least = Integer.MAX_VALUE;
            for (Integer stop : stops) {
                List<Integer> others = new ArrayList<>(stops);
                others.remove(stop);
                Gone way = cheapestWay(at, stop);
                int rest = way == null ? Integer.MAX_VALUE : orders(stop, home, others);
                if (rest != Integer.MAX_VALUE) {
                    least = Math.min(least, way.pence + rest);
                }
            }
            return least;
        }

        int errand(int a, int b) {
            if (!open(a) || !open(b)) {
                return BAD;
            }
            if (errands.size() == 6) {
                return FULL;
            }
            errands.add(new int[] {a, b});
            return errands.size();
        }

        int home() {
            int had = errands.size();
            errands.clear();
            return had;
        }

        int help(int what) {
            if (what != 0 && what != 1) {
                return BAD;
            }
            int least = Integer.MAX_VALUE;
            int where = NONE;
            for (int c = 0; c < wide * high; c++) {
                if (on.containsKey(c)) {
                    continue;
                }
                on.put(c, "elbow");
                int all = 0;
                for (int[] errand : errands) {
                    Gone way = cheapestWay(errand[0], errand[1]);
                    if (way == null) {
                        on.remove(c);
                        return NONE;
                    }
                    all += way.pence;
                }
                on.remove(c);
                if (all < least) {
                    least = all;
                    where = c;
                }
            }
            return where == NONE ? NONE : what == 0 ? where : least;
        }

        int fits(int a, int b, int n, int pence) {
            if (!open(a) || !open(b) || n < 0 || n > 8 || pence < 0) {
                return BAD;
            }
            return fitting(new Gone(a), b, n, pence);
        }

        int fitting(Gone gone, int b, int n, int pence) {
            if (n == 0) {
                return gone.c == b && gone.pence == pence ? 1 : 0;
            }
            int all = 0;
            for (char d : LETTERS.toCharArray()) {
                Gone more = gone.on(d);
                if (more != null) {
                    all += fitting(more, b, n - 1, pence);
                }
            }
            return all;
        }

        // ---- kinds, images

        int rating(int kind) {
            int square = stood == NONE ? 0 : one(0);
            switch (kind) {
                case 0: trace += 1; return paid();
                case 1: trace += 11; return paid() + path.length();
                case 2: trace += 101; return paid() - one(2);
                case 3: trace += 1011; return 2 * (paid() + path.length());
                case 4: trace += 10101; return paid() - one(2) + square;
                case 5: trace += 100001; return paid() + errands.size();
                default: return NO;
            }
        }

        int keep(int image) {
            if (image != 0 && image != 1) {
                return BAD;
            }
            images.put(image, new Object[] {stood, path, new ArrayList<>(fares), night});
            return path.length();
        }

        @SuppressWarnings("unchecked")
        int back(int image) {
            if (image != 0 && image != 1) {
                return BAD;
            }
            if (!images.containsKey(image)) {
                return STATE;
            }
            Object[] kept = images.get(image);
            stood = (Integer) kept[0];
            path = (String) kept[1];
            fares = new ArrayList<>((List<Integer>) kept[2]);
            night = (Boolean) kept[3];
            return path.length();
        }

        int count(int what) {
            int houses = 0;
            for (String thing : on.values()) {
                houses += thing.equals("house") ? 1 : 0;
            }
            int[] all = {wide, high, houses, on.size() - houses, errands.size(), text.length()};
            return what < 0 || what > 5 ? BAD : all[what];
        }
    }
}
