import java.util.ArrayList;
import java.util.List;
import java.util.Set;
import java.util.TreeSet;

/**
 * Tests told in rows. A test stands for one sentence of the document, on a new object; it is a text of rows, one to
 * a line or parted by " / ", and "3 x" ahead of a line takes the whole line three times. A row is one of
 *
 *   step(1) = STATE      a call, and the answer that is due
 *   'town 2 1;' = 1      these bytes are typed, and town() has that answer; behind a fault the text is cleared
 *   typed 'tow'          these bytes are typed
 *   blank 192            so many blanks are typed
 *   512 calls in all     so many calls have been made on the object
 *
 * In typed bytes \xE9 is the byte with that number. A call that is refused, and one that only asks, must leave all
 * as it was: the rows so far are gone through on two new objects, on one of them with that call and on the other
 * without it, and both must answer alike from there on. Late in a run of 512 calls too few are left for that; the end
 * says how many calls were not looked at so.
 */
final class Rows {
    private static final Set<String> QUESTIONS = Set.of("square", "law", "one", "cost", "cheapest", "quickest", "line",
        "fewTurns", "round", "help", "fits", "count", "trace");
    private static final int MOST_CALLS = 512;
    private static final int MOST_UNDONE = 61;
    /** No fewer than the calls that a portrait makes. */
    private static final int PORTRAIT = 340;

    private static int tests = 0;
    private static int answers = 0;
    private static int twins = 0;
    private static int withoutTwins = 0;
    private static int wrong = 0;
    private static final Set<Integer> promises = new TreeSet<>();

    private final String title;
    private final StraightTax x = new StraightTax();
    private final List<String> calls = new ArrayList<>();
    /** What comes behind the first fault of a test says nothing more. */
    private boolean ended = false;

    private Rows(String title) {
        this.title = title;
    }

    static void test(int promise, String sentence, String rows) {
        tests++;
        promises.add(promise);
        Rows test = new Rows("promise " + promise + ", " + sentence);
        for (String line : rows.split("\n")) {
            if (!line.isBlank()) {
                test.line(line.strip());
            }
        }
    }

    /** Each of these promises must have had a test. */
    static void each(int firstPromise, int lastPromise) {
        for (int p = firstPromise; p <= lastPromise; p++) {
            if (!promises.contains(p)) {
                wrong++;
                System.out.println("no test for promise " + p);
            }
        }
    }

    static void end() {
        System.out.println(tests + " tests, " + answers + " answers, " + twins + " of them on twins ("
            + withoutTwins + " too late in a run for that); " + wrong + " not as due");
        if (wrong != 0) {
            System.exit(1);
        }
    }

    private void line(String line) {
        int times = 1;
        String rows = line;
        if (line.matches("\\d+ x .*")) {
            times = Integer.parseInt(line.substring(0, line.indexOf(' ')));
            rows = line.substring(line.indexOf(" x ") + 3);
        }
        for (int i = 0; i < times; i++) {
            for (String row : rows.split(" / ")) {
                if (!ended) {
                    row(row.strip());
                }
            }
            if (calls.size() > MOST_CALLS) {
                fault("more calls than an object is used for");
            }
        }
    }

    private void row(String row) {
        if (row.endsWith(" calls in all")) {
            if (calls.size() != Integer.parseInt(row.substring(0, row.indexOf(' ')))) {
                fault(row + ", but there were " + calls.size());
            }
        } else if (row.startsWith("blank ")) {
            type(" ".repeat(Integer.parseInt(row.substring(6))));
        } else if (row.startsWith("typed '")) {
            type(bytes(row.substring(6)));
        } else if (row.startsWith("'")) {
            int equal = row.lastIndexOf(" = ");
            String text = bytes(row.substring(0, equal));
            long want = answer(row.substring(equal + 3));
            type(text);
            due("town()", want, row);
            due("count(5)", want < 0 ? text.length() : 0, row + ": bytes of the text then");
            if (want < 0) {
                due("clear()", text.length(), row);
            }
        } else {
            int equal = row.lastIndexOf(" = ");
            due(row.substring(0, equal), answer(row.substring(equal + 3)), row);
        }
    }

    private void type(String text) {
        for (int i = 0; i < text.length(); i += 8) {
            int n = Math.min(8, text.length() - i);
            long v = 0;
            for (int k = 0; k < n; k++) {
                v = v << 8 | text.charAt(i + k);
            }
            String call = "type(" + v + ", " + n + ")";
            calls.add(call);
            long length = call(x, call);
            if (length < n) {
                fault(call + " of '" + text + "' answered " + length);
            }
        }
    }

    private void due(String call, long want, String row) {
        answers++;
        long got = call(x, call);
        if (got != want) {
            fault(row + ": " + call + " answered " + got);
        }
        if (mayNotChange(call, got)) {
            compareTwins(call, row);
        }
        calls.add(call);
    }

    private void compareTwins(String call, String row) {
        if (calls.size() + 1 + PORTRAIT > MOST_CALLS) {
            withoutTwins++;
            return;
        }
        twins++;
        List<Long> before = portrait(null);
        List<Long> behind = portrait(call);
        if (!before.equals(behind)) {
            fault(row + ": " + call + " changed something: " + before + " became " + behind);
        }
    }

    private void fault(String what) {
        wrong++;
        ended = true;
        System.out.println(title + ": " + what);
        System.out.println("    behind " + calls.subList(Math.max(0, calls.size() - 12), calls.size()));
    }

    private static boolean mayNotChange(String call, long got) {
        String name = call.substring(0, call.indexOf('('));
        boolean refused = got == StraightTax.BAD || got == StraightTax.STATE || got == StraightTax.FULL;
        boolean fault = name.equals("town") && got < 0;
        return QUESTIONS.contains(name) || fault || name.equals("rating") && got == StraightTax.NO
            || refused && !name.equals("rating");
    }

    /** What a new object answers behind all the calls so far, and one more if it isn't null. */
    private List<Long> portrait(String more) {
        StraightTax y = new StraightTax();
        for (String call : calls) {
            call(y, call);
        }
        if (more != null) {
            call(y, more);
        }
        List<Long> all = new ArrayList<>();
        for (int what = 0; what < 6; what++) {
            all.add((long) y.law(what));
            all.add((long) y.count(what));
            all.add((long) y.one(what));
        }
        for (int c = 0; c < 20; c++) {
            all.add((long) y.square(c));
        }
        ask(y, all, "trace()", "help(0)", "help(1)", "cheapest(0, 1, -2)", "rating(4)", "trace()", "dusk(1)", "help(1)",
            "errand(0, 0)", "home()");
        boolean undone = true;
        for (int i = 0; i < MOST_UNDONE && undone; i++) {
            int fare = y.undo();
            all.add((long) fare);
            ask(y, all, "one(0)", "one(1)", "one(2)");
            undone = fare >= 0;
        }
        for (int image = 0; image < 2; image++) {
            ask(y, all, "back(" + image + ")", "one(0)", "one(1)", "one(2)", "one(3)", "one(4)", "law(5)", "undo()", "one(0)",
                "one(1)");
        }
        ask(y, all, "town()", "law(0)", "law(1)", "law(2)", "law(3)", "law(4)", "count(0)", "count(1)", "count(2)",
            "count(3)", "clear()", "back(0)", "back(1)");
        return all;
    }

    private static void ask(StraightTax y, List<Long> all, String... questions) {
        for (String question : questions) {
            all.add(call(y, question));
        }
    }

    /** The bytes between the quotes. */
    private static String bytes(String quoted) {
        StringBuilder all = new StringBuilder();
        String inside = quoted.substring(quoted.indexOf('\'') + 1, quoted.lastIndexOf('\''));
        for (int i = 0; i < inside.length(); i++) {
            if (inside.startsWith("\\x", i)) {
                all.append((char) Integer.parseInt(inside.substring(i + 2, i + 4), 16));
                i += 3;
            } else {
                all.append(inside.charAt(i));
            }
        }
        return all.toString();
    }

    private static long answer(String told) {
        switch (told) {
            case "BAD": return -1;
            case "STATE": return -2;
            case "FULL": return -3;
            case "NONE": return -9;
            case "NO": return -1000000;
            default: return Long.parseLong(told);
        }
    }

    private static long number(String told) {
        switch (told) {
            case "MIN": return Integer.MIN_VALUE;
            case "MAX": return Integer.MAX_VALUE;
            case "LONGMIN": return Long.MIN_VALUE;
            case "LONGMAX": return Long.MAX_VALUE;
            default: return told.startsWith("0x") ? Long.parseUnsignedLong(told.substring(2), 16) : Long.parseLong(told);
        }
    }

    private static long call(StraightTax x, String call) {
        int open = call.indexOf('(');
        String inside = call.substring(open + 1, call.length() - 1);
        String[] told = inside.isEmpty() ? new String[0] : inside.split(", ");
        int[] n = new int[4];
        for (int i = 0; i < told.length; i++) {
            n[i] = (int) number(told[i]);
        }
        switch (call.substring(0, open) + told.length) {
            case "type2": return x.type(number(told[0]), n[1]);
            case "clear0": return x.clear();
            case "town0": return x.town();
            case "square1": return x.square(n[0]);
            case "law1": return x.law(n[0]);
            case "stand1": return x.stand(n[0]);
            case "step1": return x.step(n[0]);
            case "undo0": return x.undo();
            case "one1": return x.one(n[0]);
            case "dusk1": return x.dusk(n[0]);
            case "cost2": return x.cost(n[0], n[1]);
            case "cheapest3": return x.cheapest(n[0], n[1], n[2]);
            case "quickest3": return x.quickest(n[0], n[1], n[2]);
            case "line4": return x.line(n[0], n[1], n[2], n[3]);
            case "fewTurns2": return x.fewTurns(n[0], n[1]);
            case "round2": return x.round(n[0], n[1]);
            case "errand2": return x.errand(n[0], n[1]);
            case "home0": return x.home();
            case "help1": return x.help(n[0]);
            case "fits4": return x.fits(n[0], n[1], n[2], n[3]);
            case "rating1": return x.rating(n[0]);
            case "keep1": return x.keep(n[0]);
            case "back1": return x.back(n[0]);
            case "count1": return x.count(n[0]);
            case "trace0": return x.trace();
            default: throw new IllegalArgumentException("no such call: " + call);
        }
    }
}
