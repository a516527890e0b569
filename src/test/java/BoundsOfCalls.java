/** Each promise by its own words: each answer that it names, at the last number that is taken and the first that is not. */
public final class BoundsOfCalls {
    /** What no call takes for a SQUARE of this town: beyond it on both sides, and a HOUSE. */
    private static final String[] TOWNS = {"town 2 1;", "town 5 4;house 2 1;", "house 1 1;"};
    private static final String[][] NO_SQUARES = {
        {"-1", "2", "3", "12", "19", "20", "MIN", "MAX"},
        {"-1", "20", "21", "7", "32", "MIN", "MAX"},
        {"-1", "12", "13", "19", "20", "5", "MIN", "MAX"}};

    public static void main(String[] args) {
        theTown();
        theTextTyped();
        oneWhoGoes();
        costs();
        cheapestWays();
        quickestWays();
        lines();
        fewestTurns();
        rounds();
        errands();
        helps();
        fitting();
        ratings();
        images();
        counts();
        Rows.each(1, 26);
        Rows.end();
    }

    /** A call with # for a SQUARE, with each number that is none. */
    private static void noSquare(int promise, String call) {
        for (int i = 0; i < TOWNS.length; i++) {
            StringBuilder rows = new StringBuilder();
            rows.append("'").append(TOWNS[i]).append("' = ").append(i == 1 ? 2 : 1);
            rows.append("\nstand(1) = 1 / step(3) = 0 / errand(0, 1) = 1 / keep(0) = 1 / typed 'doub'\n");
            for (String c : NO_SQUARES[i]) {
                rows.append(call.replace("#", c)).append(" = BAD\n");
            }
            Rows.test(promise, "BAD: no SQUARE, or a HOUSE, in " + call + " of '" + TOWNS[i] + "'", rows.toString());
        }
    }

    /** A call with # for a number, with each of some that it does not take. */
    private static void refused(int promise, String call, String answer, String... numbers) {
        StringBuilder rows = new StringBuilder();
        rows.append("'town 3 2;double;' = 2 / stand(1) = 1 / step(3) = 0 / dusk(1) = 0 / errand(0, 1) = 1 / keep(0) = 1 / typed 'doub'\n");
        for (String n : numbers) {
            rows.append(call.replace("#", n)).append(" = ").append(answer).append("\n");
        }
        Rows.test(promise, answer + ": a number is not as told, in " + call, rows.toString());
    }

    // ---- the town

    private static void theTown() {
        Rows.test(1, "no HOUSES, no ELBOWS, no ERRANDS, no bytes, no IMAGES", """
            count(2) = 0 / count(3) = 0 / count(4) = 0 / count(5) = 0 / trace() = 0 / back(0) = STATE / back(1) = STATE
            """);
        Rows.test(1, "each SQUARE of a new town is empty", """
            square(0) = 0 / square(1) = 0 / square(2) = 0 / square(3) = 0 / square(4) = 0 / square(5) = 0
            square(6) = 0 / square(7) = 0 / square(8) = 0 / square(9) = 0 / square(10) = 0 / square(11) = 0
            """);
        Rows.test(1, "a new town, told by what ONE pays in it", """
            stand(0) = 1 / step(1) = 0 / step(1) = 1 / step(1) = 4 / step(1) = STATE / step(2) = 0 / step(2) = 1 / step(2) = STATE / one(1) = 6
            """);
        Rows.test(5, "0 nothing, 1 a HOUSE, 2 an ELBOW, on the first and the last SQUARE", """
            'town 5 4;house 0 0;elbow 4 3;' = 3 / square(0) = 1 / square(1) = 0 / square(18) = 0 / square(19) = 2
            'town 2 1;elbow 0 0;house 1 0;' = 3 / square(0) = 2 / square(1) = 1
            """);
        Rows.test(5, "BAD: no such SQUARE", """
            square(-1) = BAD / square(12) = BAD / square(19) = BAD / square(20) = BAD / square(MIN) = BAD / square(MAX) = BAD
            'town 2 1;' = 1 / square(1) = 0 / square(2) = BAD / square(11) = BAD / square(-1) = BAD
            'town 5 4;' = 1 / square(19) = 0 / square(20) = BAD / square(-1) = BAD / square(MIN) = BAD / square(MAX) = BAD
            """);
        Rows.test(6, "0 FREE, 1 RATE, 2 FORM, 3 DOUBLED, 4 HASTE, 5 whether it is night", """
            'tax 3 7 1;double;haste 5;' = 3 / law(0) = 3 / law(1) = 7 / law(2) = 1 / law(3) = 1 / law(4) = 5 / law(5) = 0 / dusk(1) = 0 / law(5) = 1
            """);
        refused(6, "law(#)", "BAD", "-1", "6", "7", "MIN", "MAX");
    }

    private static void theTextTyped() {
        Rows.test(2, "n (1 .. 8)", """
            type(32, 1) = 1 / type(0, 8) = 9 / type(0, 0) = BAD / type(0, 9) = BAD / type(0, -1) = BAD / type(0, -8) = BAD
            type(0, MIN) = BAD / type(0, MAX) = BAD / type(0, 16) = BAD / count(5) = 9
            """);
        Rows.test(2, "each n, one behind the other", """
            type(32, 1) = 1 / type(32, 2) = 3 / type(32, 3) = 6 / type(32, 4) = 10 / type(32, 5) = 15 / type(32, 6) = 21 / type(32, 7) = 28
            type(32, 8) = 36 / count(5) = 36
            """);
        Rows.test(2, "the lowest n bytes of v, the highest of them first", """
            type(0x646f75626c653b20, 8) = 8 / town() = 1 / law(3) = 1
            type(0x21646f75626c653b, 7) = 7 / town() = 1 / law(3) = 1
            type(0x7878646f7562, 4) = 4 / type(0x7878787878786c65, 2) = 6 / type(0xffffffffffffff3b, 1) = 7 / town() = 1 / law(3) = 1
            """);
        Rows.test(2, "the least and the greatest long, 0 and -1: eight bytes, of which the first begins no TOKEN", """
            type(LONGMIN, 8) = 8 / town() = -10 / clear() = 8
            type(LONGMAX, 8) = 8 / town() = -10 / clear() = 8
            type(-1, 8) = 8 / town() = -10 / clear() = 8
            type(0, 8) = 8 / town() = -10 / clear() = 8
            type(LONGMIN, 1) = 1 / town() = -10 / clear() = 1
            type(-224, 1) = 1 / town() = 0
            """);
        Rows.test(2, "BAD for the least and the greatest long", """
            type(LONGMIN, 0) = BAD / type(LONGMAX, 9) = BAD / type(LONGMIN, MIN) = BAD / type(LONGMAX, MAX) = BAD / count(5) = 0
            """);
        Rows.test(3, "how many bytes it had: 0, 1, 200", """
            clear() = 0 / clear() = 0 / type(32, 1) = 1 / clear() = 1 / clear() = 0 / blank 200 / clear() = 200 / clear() = 0 / count(5) = 0
            """);
        Rows.test(3, "THE TEXT is empty: what was in it is not read any more", """
            typed '!' / clear() = 1 / town() = 0 / typed 'double' / clear() = 6 / typed ';' / town() = -10 / clear() = 1
            typed 'haste 12' / clear() = 8 / typed 'haste 1' / town() = -17 / type(59, 1) = 8 / town() = 1 / law(4) = 1
            """);
        Rows.test(3, "nothing but THE TEXT is cleared", """
            stand(0) = 1 / step(1) = 0 / errand(0, 1) = 1 / keep(0) = 1 / typed 'dou' / clear() = 3
            one(0) = 1 / one(4) = 1 / count(4) = 1 / back(0) = 1
            """);
        Rows.test(4, "how many ITEMS: 0, 1, and as many as 200 bytes hold", """
            town() = 0
            'double;' = 1
            'tax 0 1 0;haste 0;double;' = 3
            'house0 0;house1 0;house2 0;house3 0;elbow0 1;elbow1 1;elbow2 1;elbow3 1;elbow0 2;elbow1 2;elbow2 2;elbow3 2;double;haste0;tax0 1 0;' = 15
            """);
        Rows.test(4, "THE TEXT is empty then", """
            'double;' = 1 / count(5) = 0 / clear() = 0 / town() = 0 / law(3) = 0
            """);
        Rows.test(4, "-10 less FAULT, FAULT 0 to 200", """
            '!' = -10
            ' !' = -11
            blank 200 / town() = 0
            blank 199 / type(33, 1) = 200 / town() = -209 / town() = -209 / clear() = 200
            blank 199 / type(97, 1) = 200 / town() = -209 / clear() = 200
            blank 195 / typed 'haste' / town() = -210 / clear() = 200
            """);
    }

    // ---- one who goes

    private static void oneWhoGoes() {
        noSquare(7, "stand(#)");
        Rows.test(7, "ONE stands on a SQUARE, the first and the last, has PAID nothing, STEPS none", """
            'town 5 4;haste 1;' = 2 / stand(0) = 1 / one(0) = 0 / step(1) = 1 / stand(19) = 1 / one(0) = 19 / one(1) = 0 / one(2) = 0 / one(3) = NONE
            one(4) = 0 / undo() = STATE / stand(19) = 1 / one(0) = 19
            """);
        Rows.test(7, "BAD, and ONE stands where it stood, or nowhere", """
            'house 0 0;' = 1 / stand(0) = BAD / one(0) = NONE / step(1) = STATE / stand(1) = 1 / step(1) = 0 / stand(0) = BAD / stand(12) = BAD
            one(0) = 2 / one(4) = 1
            """);
        Rows.test(7, "stand leaves day or night, ERRANDS and IMAGES", """
            stand(0) = 1 / dusk(1) = 0 / errand(0, 1) = 1 / keep(1) = 0 / stand(5) = 1 / law(5) = 1 / count(4) = 1 / back(1) = 0 / one(0) = 0
            """);
        refused(8, "step(#)", "BAD", "-1", "4", "5", "MIN", "MAX");
        Rows.test(8, "BAD: no direction, of ONE who stands nowhere too", """
            step(-1) = BAD / step(4) = BAD / step(MIN) = BAD / step(MAX) = BAD / step(0) = STATE / step(3) = STATE
            """);
        Rows.test(8, "STATE: it leads out, on each side", """
            'town 2 1;' = 1 / stand(0) = 1 / step(0) = STATE / step(2) = STATE / step(3) = STATE / step(1) = 0 / step(0) = STATE / step(1) = STATE
            step(2) = STATE / step(3) = 0 / one(4) = 2
            """);
        Rows.test(8, "STATE: it leads onto a HOUSE, on each side; an ELBOW is none", """
            'town 3 3;house 1 0;house 2 1;house 1 2;house 0 1;' = 5 / stand(4) = 1
            step(0) = STATE / step(1) = STATE / step(2) = STATE / step(3) = STATE / one(0) = 4 / one(4) = 0
            'town 3 3;elbow 1 0;elbow 2 1;elbow 1 2;elbow 0 1;' = 5 / stand(4) = 1
            step(0) = 0 / step(2) = 0 / step(1) = 0 / step(3) = 0 / step(2) = 0 / step(0) = 0 / step(3) = 0 / step(1) = 0 / one(4) = 8
            """);
        Rows.test(9, "STATE: no STEP, nowhere, where it stood, and behind the last", """
            undo() = STATE / stand(0) = 1 / undo() = STATE / step(1) = 0 / undo() = 0 / undo() = STATE / one(0) = 0
            """);
        Rows.test(10, "Of ONE on none: 0 NONE, 1 0, 2 0, 3 NONE, 4 0", """
            one(0) = NONE / one(1) = 0 / one(2) = 0 / one(3) = NONE / one(4) = 0
            """);
        Rows.test(10, "Of ONE where it stood, and behind STEPS in each direction", """
            'town 3 3;haste 2;' = 2 / stand(4) = 1 / one(0) = 4 / one(2) = 0 / one(3) = NONE
            step(0) = 2 / one(3) = 0 / step(1) = 2 / one(3) = 1 / step(2) = 2 / one(3) = 2 / step(2) = 3 / one(2) = 2 / step(3) = 2 / one(3) = 3
            one(0) = 7 / one(1) = 11 / one(4) = 5
            """);
        Rows.test(10, "its RUN, from 0 to 4", """
            'town 5 1;' = 1 / stand(4) = 1 / one(2) = 0 / step(3) = 0 / one(2) = 1 / step(3) = 1 / one(2) = 2 / step(3) = 4 / one(2) = 3
            step(3) = 9 / one(2) = 4 / undo() = 9 / one(2) = 3
            """);
        refused(10, "one(#)", "BAD", "-1", "5", "6", "MIN", "MAX");
        Rows.test(11, "what it was", """
            dusk(0) = 0 / dusk(1) = 0 / dusk(1) = 1 / dusk(0) = 1 / dusk(0) = 0
            """);
        refused(11, "dusk(#)", "BAD", "-1", "2", "3", "MIN", "MAX");
        Rows.test(11, "BAD, and it stays day", """
            dusk(2) = BAD / dusk(-1) = BAD / dusk(MIN) = BAD / dusk(MAX) = BAD / law(5) = 0
            """);
    }

    // ---- ways

    private static void costs() {
        noSquare(12, "cost(#, 0)");
        noSquare(12, "cost(#, 1)");
        noSquare(12, "cost(#, 9)");
        Rows.test(12, "figures 1 n, 2 e, 3 s, 4 w, the first one the highest", """
            'town 3 3;haste 1;' = 2 / cost(7, 1) = 1 / cost(3, 2) = 1 / cost(1, 3) = 1 / cost(5, 4) = 1
            cost(1, 1) = -10 / cost(5, 2) = -10 / cost(7, 3) = -10 / cost(3, 4) = -10
            cost(0, 12) = -10 / cost(0, 21) = -11 / cost(0, 23) = 2 / cost(0, 32) = 2 / cost(0, 22) = 3 / cost(0, 222) = -12
            """);
        Rows.test(12, "0: none; 9 at most", """
            'town 2 1;haste 1;' = 2 / cost(0, 0) = 0 / cost(0, 2) = 1 / cost(0, 24242424) = 8 / cost(0, 242424242) = 9
            cost(0, 1111111111) = BAD / cost(0, 1242424242) = BAD / cost(0, 2112112112) = BAD
            """);
        Rows.test(12, "each row of two figures from the middle of a town", """
            'town 5 4;tax 0 1 1;haste 1;' = 3 / cost(12, 11) = 5 / cost(12, 12) = 4 / cost(12, 13) = 4 / cost(12, 14) = 4
            cost(7, 21) = 4 / cost(7, 22) = 5 / cost(7, 23) = 4 / cost(7, 24) = 4 / cost(7, 31) = 4 / cost(7, 32) = 4 / cost(7, 33) = 5 / cost(7, 34) = 4
            cost(7, 41) = 4 / cost(7, 42) = 4 / cost(7, 43) = 4 / cost(7, 44) = 5 / cost(15, 111) = 9 / cost(19, 1111) = -13 / cost(0, 3333) = -13
            """);
        Rows.test(12, "the greatest and the least row of 9 figures, of one figure, and beyond", """
            cost(0, 111111111) = -10 / cost(0, 444444444) = -10 / cost(11, 444444444) = -13 / cost(11, 111111111) = -12
            cost(0, 1) = -10 / cost(0, 4) = -10 / cost(0, 5) = BAD / cost(0, 9) = BAD / cost(0, 444444445) = BAD / cost(0, 999999999) = BAD
            cost(0, 1000000000) = BAD / cost(0, MAX) = BAD / cost(0, -1) = BAD / cost(0, -2) = BAD / cost(0, -22) = BAD / cost(0, MIN) = BAD
            """);
        Rows.test(12, "BAD: a figure is none, the first, one within and the last", """
            cost(0, 20) = BAD / cost(0, 202) = BAD / cost(0, 52) = BAD / cost(0, 252) = BAD / cost(0, 225) = BAD / cost(0, 10) = BAD / cost(0, 100000000) = BAD
            cost(0, 2222) = -13 / cost(0, 22220) = BAD / cost(0, 22226) = BAD / cost(0, 62222) = BAD / cost(0, 22722) = BAD
            cost(0, 8) = BAD / cost(0, 242424240) = BAD / cost(0, 942424242) = BAD
            """);
        Rows.test(12, "-10 less the first STEP (from 0) that can not be: each of the nine", """
            'town 2 1;' = 1 / cost(0, 1) = -10 / cost(0, 21) = -11 / cost(0, 241) = -12 / cost(0, 2421) = -13 / cost(0, 24241) = -14
            cost(0, 242421) = -15 / cost(0, 2424241) = -16 / cost(0, 24242421) = -17 / cost(0, 242424241) = -18 / cost(0, 242424244) = -18
            cost(0, 142424242) = -10 / cost(0, 222222222) = -11
            """);
        Rows.test(12, "-10 less the first STEP onto a HOUSE", """
            'town 3 3;house 1 1;' = 2 / cost(1, 3) = -10 / cost(0, 23) = -11 / cost(0, 32) = -11 / cost(0, 2233) = 2 / cost(0, 22334) = 2 / cost(0, 223341) = -15
            """);
        Rows.test(12, "the dearest row of 9 figures", """
            'town 5 1;tax 0 9 2;double;haste 9;' = 4 / dusk(1) = 0 / cost(0, 222244442) = 1179
            """);
    }

    private static void cheapestWays() {
        noSquare(13, "cheapest(#, 0, -2)");
        noSquare(13, "cheapest(0, #, -1)");
        noSquare(13, "cheapest(#, #, 0)");
        noSquare(13, "cheapest(0, #, MAX)");
        refused(13, "cheapest(0, 5, #)", "BAD", "-3", "-4", "-10", "MIN");
        refused(13, "cheapest(0, 0, #)", "BAD", "-3", "MIN");
        refused(13, "cheapest(0, 5, #)", "-5", "3", "4", "60", "1024", "MAX");
        Rows.test(13, "what it costs (i = -2), how many STEPS (-1), the i-th (-5: not so many)", """
            'town 3 2;haste 1;' = 2 / cheapest(0, 5, -2) = 3 / cheapest(0, 5, -1) = 3 / cheapest(0, 5, 0) = 1 / cheapest(0, 5, 1) = 2 / cheapest(0, 5, 2) = 1
            cheapest(0, 5, 3) = -5 / cheapest(0, 5, -3) = BAD
            cheapest(1, 0, -1) = 1 / cheapest(1, 0, 0) = 3 / cheapest(1, 0, 1) = -5
            """);
        Rows.test(13, "NONE ahead of -5, BAD ahead of NONE", """
            'town 3 1;house 1 0;' = 2 / cheapest(0, 2, 0) = NONE / cheapest(0, 2, MAX) = NONE / cheapest(0, 2, -2) = NONE / cheapest(0, 2, -3) = BAD
            cheapest(2, 2, 0) = -5
            """);
        Rows.test(13, "under the dearest law, from the first to the last SQUARE", """
            'town 5 4;tax 0 9 2;double;haste 9;' = 4 / dusk(1) = 0 / cheapest(0, 19, -2) = 189 / cheapest(0, 19, -1) = 7 / cheapest(0, 19, 0) = 1
            cheapest(0, 19, 1) = 2 / cheapest(0, 19, 6) = 1 / cheapest(0, 19, 7) = -5 / cheapest(19, 0, -2) = 189 / cheapest(19, 0, 0) = 3
            """);
    }

    private static void quickestWays() {
        noSquare(14, "quickest(#, 0, 0)");
        noSquare(14, "quickest(0, #, MAX)");
        noSquare(14, "quickest(#, #, -1)");
        refused(14, "quickest(0, 5, #)", "BAD", "-1", "-2", "MIN");
        refused(14, "quickest(0, 0, #)", "BAD", "-1", "MIN");
        refused(14, "quickest(0, 5, #)", "3", "0", "1", "1073741823", "1073741824", "MAX");
        Rows.test(14, "pence from 0", """
            quickest(0, 0, 0) = 0 / quickest(0, 1, 0) = 1 / quickest(0, 11, 0) = 5 / quickest(0, 3, 4) = 5 / quickest(0, 3, 5) = 3 / quickest(0, 0, -1) = BAD
            """);
        Rows.test(14, "NONE: one penny too few", """
            'town 3 1;tax 0 1 1;' = 2 / quickest(0, 2, 3) = 2 / quickest(0, 2, 2) = NONE / quickest(0, 2, 0) = NONE / quickest(0, 2, -1) = BAD
            """);
        Rows.test(14, "NONE: no WAY for the most pence", """
            'town 3 1;house 1 0;' = 2 / quickest(0, 2, MAX) = NONE / quickest(0, 2, 1073741823) = NONE / quickest(0, 2, 1073741824) = NONE / quickest(0, 2, 0) = NONE
            """);
    }

    private static void lines() {
        noSquare(15, "line(#, 0, -1, 0)");
        noSquare(15, "line(0, #, 0, 1)");
        noSquare(15, "line(#, #, MAX, 0)");
        refused(15, "line(0, 2, #, 0)", "BAD", "-2", "-3", "MIN");
        refused(15, "line(0, 2, 0, #)", "BAD", "-1", "2", "MIN", "MAX");
        refused(15, "line(0, 2, -1, #)", "BAD", "-1", "2", "MIN", "MAX");
        refused(15, "line(0, 2, 9, #)", "BAD", "-1", "2", "MIN", "MAX");
        refused(15, "line(0, 2, #, 1)", "-5", "2", "3", "60", "61", "MAX");
        Rows.test(15, "how many corners (i = -1), the i-th: STEPS (what = 0), what it costs (1); -5: not so many", """
            line(0, 3, -1, 0) = 2 / line(0, 3, -1, 1) = 2 / line(0, 3, 0, 0) = 3 / line(0, 3, 0, 1) = 5 / line(0, 3, 1, 0) = 5 / line(0, 3, 1, 1) = 0
            line(0, 3, 2, 0) = -5 / line(0, 3, 2, 1) = -5 / line(0, 3, MAX, 0) = -5 / line(0, 3, -2, 0) = BAD / line(0, 3, 0, 2) = BAD
            """);
        Rows.test(15, "-5 from the first, where there is no WAY", """
            'town 3 1;house 1 0;' = 2 / line(0, 2, -1, 1) = 0 / line(0, 2, 0, 0) = -5 / line(0, 2, MAX, 1) = -5 / line(0, 2, -2, 0) = BAD / line(0, 1, -1, 0) = BAD
            """);
    }

    private static void fewestTurns() {
        noSquare(16, "fewTurns(#, 0)");
        noSquare(16, "fewTurns(0, #)");
        noSquare(16, "fewTurns(#, #)");
        Rows.test(16, "from none to some, from the first to the last SQUARE", """
            fewTurns(0, 0) = 0 / fewTurns(0, 3) = 0 / fewTurns(0, 8) = 0 / fewTurns(0, 11) = 1 / fewTurns(11, 0) = 1 / fewTurns(11, 11) = 0
            'town 2 1;' = 1 / fewTurns(0, 1) = 0 / fewTurns(1, 0) = 0
            'town 5 4;' = 1 / fewTurns(0, 19) = 1 / fewTurns(19, 0) = 1 / fewTurns(4, 15) = 1 / fewTurns(15, 0) = 0 / fewTurns(19, 15) = 0
            """);
        Rows.test(16, "NONE, and BAD ahead of it", """
            'town 4 1;house 1 0;' = 2 / fewTurns(0, 3) = NONE / fewTurns(3, 0) = NONE / fewTurns(2, 3) = 0 / fewTurns(0, 1) = BAD / fewTurns(0, 4) = BAD
            """);
    }

    private static void rounds() {
        noSquare(17, "round(#, 0)");
        noSquare(17, "round(#, 1)");
        Rows.test(17, "BAD: more than 4 PLACES", """
            'town 5 4;tax 4 1 0;haste 1;' = 3 / round(0, 15) = 6 / round(0, 31) = BAD / round(0, 983040) = 14 / round(0, 1015808) = BAD
            round(0, 1048575) = BAD
            """);
        Rows.test(17, "BAD: PLACES beyond the town", """
            round(0, 2048) = 0 / round(0, 4096) = BAD / round(0, 4097) = BAD / round(0, 524288) = BAD / round(0, 1048576) = BAD
            'town 2 1;' = 1 / round(0, 2) = 0 / round(0, 3) = 0 / round(0, 4) = BAD / round(0, 6) = BAD
            'town 5 4;' = 1 / round(0, 524288) = 0 / round(0, 1048576) = BAD / round(0, 1073741824) = BAD / round(0, 1048577) = BAD
            """);
        Rows.test(17, "BAD: the least and the greatest int, and what is below 0", """
            round(0, MIN) = BAD / round(0, MAX) = BAD / round(0, -1) = BAD / round(0, -2) = BAD / round(0, -2147483647) = BAD / round(0, -1073741824) = BAD
            """);
        Rows.test(17, "BAD: a HOUSE among the PLACES, ahead of NONE", """
            'town 4 1;house 1 0;' = 2 / round(0, 2) = BAD / round(0, 3) = BAD / round(0, 6) = BAD / round(0, 4) = NONE / round(2, 10) = BAD / round(2, 8) = 0
            round(1, 0) = BAD / round(1, 2) = BAD
            'town 5 4;house 4 3;house 0 0;' = 3 / round(1, 524288) = BAD / round(1, 1) = BAD / round(1, 262144) = 0
            """);
        Rows.test(17, "no PLACES, and the SQUARE itself", """
            round(0, 0) = 0 / round(11, 0) = 0 / round(0, 1) = 0 / round(11, 2048) = 0
            """);
    }

    private static void errands() {
        noSquare(18, "errand(#, 0)");
        noSquare(18, "errand(0, #)");
        noSquare(18, "errand(#, #)");
        Rows.test(18, "how many there are, from 1 to 6; FULL", """
            'town 2 1;' = 1 / errand(0, 1) = 1 / errand(1, 0) = 2 / errand(0, 0) = 3 / errand(1, 1) = 4 / errand(0, 1) = 5 / errand(0, 2) = BAD / errand(0, 1) = 6
            errand(0, 1) = FULL / errand(1, 1) = FULL / errand(2, 0) = BAD / count(4) = 6
            """);
        Rows.test(18, "an ERRAND without a WAY is one", """
            'town 3 1;house 1 0;' = 2 / errand(0, 2) = 1 / count(4) = 1 / help(0) = NONE
            """);
        Rows.test(19, "how many there were: 0, 1, 6", """
            home() = 0 / errand(0, 1) = 1 / home() = 1 / home() = 0 / errand(0, 1) = 1 / errand(0, 1) = 2 / errand(0, 1) = 3 / errand(0, 1) = 4 / errand(0, 1) = 5
            errand(0, 1) = 6 / errand(0, 1) = FULL / home() = 6 / count(4) = 0 / home() = 0 / errand(0, 1) = 1
            """);
        Rows.test(19, "those that were are no part of HELP any more", """
            'town 3 1;tax 0 1 1;' = 2 / errand(0, 2) = 1 / errand(2, 0) = 2 / help(1) = 4 / home() = 2 / help(0) = 0 / help(1) = 0 / errand(0, 1) = 1 / help(1) = 1
            """);
    }

    private static void helps() {
        refused(20, "help(#)", "BAD", "-1", "2", "3", "MIN", "MAX");
        Rows.test(20, "BAD, ahead of NONE", """
            'town 2 1;house 0 0;house 1 0;' = 3 / help(2) = BAD / help(-1) = BAD / help(MIN) = BAD / help(MAX) = BAD / help(0) = NONE / help(1) = NONE
            """);
        Rows.test(20, "the SQUARE (what = 0), what all costs (1), for one ERRAND and for six", """
            'town 5 1;tax 0 1 2;' = 2 / errand(0, 2) = 1 / help(0) = 1 / help(1) = 2 / errand(2, 4) = 2 / help(0) = 1 / help(1) = 7
            errand(4, 2) = 3 / help(0) = 3 / help(1) = 9 / errand(0, 2) = 4 / help(0) = 1 / help(1) = 14 / errand(2, 0) = 5 / help(0) = 1 / help(1) = 16
            errand(1, 1) = 6 / help(0) = 1 / help(1) = 16 / errand(4, 2) = FULL / help(0) = 1
            """);
    }

    private static void fitting() {
        noSquare(21, "fits(#, 0, 0, 0)");
        noSquare(21, "fits(0, #, 8, 0)");
        noSquare(21, "fits(#, #, 9, -1)");
        refused(21, "fits(0, 0, #, 0)", "BAD", "-1", "9", "10", "MIN", "MAX");
        refused(21, "fits(0, 0, 0, #)", "BAD", "-1", "-2", "MIN");
        refused(21, "fits(0, 0, 2, #)", "0", "1", "2", "1073741824", "MAX");
        Rows.test(21, "n from 0 to 8, to and fro in two SQUARES", """
            'town 2 1;haste 1;' = 2 / fits(0, 0, 0, 0) = 1 / fits(0, 1, 1, 1) = 1 / fits(0, 0, 2, 2) = 1 / fits(0, 1, 3, 3) = 1 / fits(0, 0, 4, 4) = 1
            fits(0, 1, 5, 5) = 1 / fits(0, 0, 6, 6) = 1 / fits(0, 1, 7, 7) = 1 / fits(0, 0, 8, 8) = 1 / fits(0, 1, 9, 9) = BAD / fits(0, 1, 8, 8) = 0
            """);
        Rows.test(21, "one penny less or more", """
            'town 2 1;haste 1;' = 2 / fits(0, 0, 8, 7) = 0 / fits(0, 0, 8, 9) = 0 / fits(0, 0, 8, 0) = 0 / fits(0, 0, 0, 1) = 0 / fits(0, 1, 1, 0) = 0 / fits(0, 1, 1, 2) = 0
            """);
        Rows.test(21, "no WAY of so few STEPS", """
            'town 5 4;tax 4 1 0;' = 2 / fits(0, 19, 6, 0) = 0 / fits(0, 19, 7, 0) = 35 / fits(0, 19, 8, 0) = 0 / fits(0, 4, 3, 0) = 0 / fits(0, 4, 4, 0) = 1
            """);
    }

    // ---- kinds, images

    private static void ratings() {
        refused(22, "rating(#)", "NO", "-1", "6", "7", "MIN", "MAX");
        Rows.test(22, "the first and the last KIND, and beyond", """
            'haste 3;' = 1 / stand(5) = 1 / step(1) = 3 / errand(0, 1) = 1 / rating(0) = 3 / rating(5) = 4 / rating(-1) = NO / rating(6) = NO / trace() = 100002
            """);
        Rows.test(22, "each KIND over the others", """
            'town 5 4;tax 0 2 1;' = 2 / stand(7) = 1 / step(1) = 2 / step(1) = 4 / errand(0, 1) = 1 / errand(0, 1) = 2 / errand(0, 1) = 3
            rating(0) = 6 / rating(1) = 8 / rating(2) = 4 / rating(3) = 16 / rating(4) = 13 / rating(5) = 9
            """);
        Rows.test(26, "THE TRACE of each KIND", """
            trace() = 0 / rating(3) = 0 / trace() = 1011 / rating(4) = 0 / trace() = 11112 / rating(5) = 0 / trace() = 111113 / rating(7) = NO / trace() = 111113
            """);
        Rows.test(26, "THE TRACE stays, whatever is read or taken back", """
            rating(0) = 0 / keep(0) = 0 / rating(0) = 0 / back(0) = 0 / trace() = 2 / town() = 0 / trace() = 2 / '!' = -10 / trace() = 2
            """);
    }

    private static void images() {
        refused(23, "keep(#)", "BAD", "-1", "2", "3", "MIN", "MAX");
        refused(24, "back(#)", "BAD", "-1", "2", "3", "MIN", "MAX");
        refused(24, "back(#)", "STATE", "1");
        Rows.test(23, "how many STEPS: 0 nowhere, 0 where it stood, 1", """
            keep(0) = 0 / keep(1) = 0 / stand(0) = 1 / keep(0) = 0 / step(1) = 0 / keep(1) = 1 / back(0) = 0 / one(0) = 0 / back(1) = 1 / one(0) = 1
            """);
        Rows.test(24, "STATE: none was kept, of each", """
            back(0) = STATE / back(1) = STATE / stand(0) = 1 / keep(1) = 0 / back(0) = STATE / back(1) = 0 / keep(0) = 0 / back(0) = 0
            """);
        Rows.test(24, "STATE and BAD leave ONE where it is", """
            stand(3) = 1 / step(3) = 0 / dusk(1) = 0 / back(0) = STATE / back(2) = BAD / one(0) = 2 / one(4) = 1 / law(5) = 1
            """);
    }

    private static void counts() {
        refused(25, "count(#)", "BAD", "-1", "6", "7", "MIN", "MAX");
        Rows.test(25, "0 WIDE, 1 HIGH, 2 HOUSES, 3 ELBOWS, 4 ERRANDS, 5 bytes: the least of each", """
            'town 2 1;' = 1 / count(0) = 2 / count(1) = 1 / count(2) = 0 / count(3) = 0 / count(4) = 0 / count(5) = 0
            """);
        Rows.test(25, "the most HOUSES, ELBOWS, ERRANDS and bytes", """
            'town 4 4;house 0 0;house 1 0;house 2 0;house 3 0;house 0 1;house 1 1;house 2 1;house 3 1;house 0 2;house 1 2;house 2 2;house 3 2;house 0 3;house 1 3;house 2 3;house 3 3;' = 17
            count(2) = 16 / count(3) = 0
            'town 4 4;elbow 0 0;elbow 1 0;elbow 2 0;elbow 3 0;elbow 0 1;elbow 1 1;elbow 2 1;elbow 3 1;elbow 0 2;elbow 1 2;elbow 2 2;elbow 3 2;elbow 0 3;elbow 1 3;elbow 2 3;elbow 3 3;' = 17
            count(2) = 0 / count(3) = 16 / errand(0, 1) = 1 / errand(0, 1) = 2 / errand(0, 1) = 3 / errand(0, 1) = 4 / errand(0, 1) = 5 / errand(0, 1) = 6
            count(4) = 6 / errand(0, 1) = FULL / count(4) = 6 / blank 200 / count(5) = 200 / type(32, 1) = FULL / count(5) = 200
            """);
    }
}
