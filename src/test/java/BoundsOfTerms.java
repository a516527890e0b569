/** Each sentence of the document's "Terms" that names a boundary, and the order in which calls are refused. */
public final class BoundsOfTerms {
    private static final String[] WORDS = {"town", "house", "elbow", "tax", "double", "haste"};

    public static void main(String[] args) {
        sizes();
        numbering();
        laws();
        fares();
        runs();
        longTexts();
        tokens();
        everyByte();
        everyWord();
        faultsOfPlace();
        faultsOfItems();
        faultsOfNumbers();
        endsTooEarly();
        goes();
        undone();
        dayAndNight();
        waysOfNoSteps();
        noWay();
        whichWay();
        quickestAndLine();
        turns();
        rounds();
        errandsAndHelp();
        fits();
        kinds();
        images();
        readAnew();
        orderOfRefusals();
        manyCalls();
        Rows.end();
    }

    // ---- part 1: the town

    private static void sizes() {
        Rows.test(4, "WIDE (2 .. 5)", """
            'town 2 1;' = 1 / count(0) = 2 / square(1) = 0 / square(2) = BAD
            'town 5 1;' = 1 / count(0) = 5 / square(4) = 0 / square(5) = BAD
            'town 0 1;' = -15
            'town 1 1;' = -15
            'town 6 1;' = -15
            'town 99 1;' = -15
            """);
        Rows.test(4, "HIGH (1 .. 4)", """
            'town 2 1;' = 1 / count(1) = 1 / square(1) = 0 / square(2) = BAD
            'town 2 4;' = 1 / count(1) = 4 / square(7) = 0 / square(8) = BAD
            'town 2 0;' = -17
            'town 2 5;' = -17
            'town 2 99;' = -17
            """);
        Rows.test(25, "the least and the greatest town", """
            'town 2 1;' = 1 / count(0) = 2 / count(1) = 1 / stand(1) = 1 / stand(2) = BAD
            'town 5 4;' = 1 / count(0) = 5 / count(1) = 4 / stand(19) = 1 / stand(20) = BAD
            """);
        Rows.test(1, "4 and 3 at first", """
            count(0) = 4 / count(1) = 3 / square(0) = 0 / square(11) = 0 / square(12) = BAD
            """);
        Rows.test(4, "4 and 3 again, if no town is told anew", """
            'town 5 4;' = 1 / square(19) = 0
            'double;' = 1 / count(0) = 4 / count(1) = 3 / square(11) = 0 / square(12) = BAD
            'town 2 1;' = 1 / square(2) = BAD
            '' = 0 / count(0) = 4 / count(1) = 3 / square(11) = 0 / square(12) = BAD
            """);
    }

    private static void numbering() {
        Rows.test(5, "numbered row by row (WIDE times y and x; y down)", """
            'town 3 2;house 2 0;elbow 0 1;' = 3 / square(2) = 1 / square(3) = 2 / square(0) = 0 / square(5) = 0
            'town 2 4;house 1 0;elbow 0 3;' = 3 / square(1) = 1 / square(6) = 2 / square(3) = 0
            'town 5 4;house 4 0;elbow 0 3;house 4 3;' = 4 / square(4) = 1 / square(15) = 2 / square(19) = 1 / square(0) = 0
            """);
        Rows.test(8, "n (y less), e (x more), s, w (numbers 0 .. 3)", """
            'town 3 3;' = 1
            stand(4) = 1 / step(0) = 0 / one(0) = 1
            stand(4) = 1 / step(1) = 0 / one(0) = 5
            stand(4) = 1 / step(2) = 0 / one(0) = 7
            stand(4) = 1 / step(3) = 0 / one(0) = 3
            """);
        Rows.test(8, "to a SQUARE of THE TOWN: no row goes on in the next one", """
            'town 3 2;' = 1
            stand(2) = 1 / step(1) = STATE / one(0) = 2
            stand(3) = 1 / step(3) = STATE / one(0) = 3
            stand(0) = 1 / step(0) = STATE / step(3) = STATE / one(0) = 0
            stand(5) = 1 / step(1) = STATE / step(2) = STATE / one(0) = 5
            """);
        Rows.test(12, "to a SQUARE of THE TOWN: no told row goes on in the next one", """
            'town 3 2;' = 1 / cost(2, 2) = -10 / cost(3, 4) = -10 / cost(0, 1) = -10 / cost(0, 4) = -10
            cost(5, 3) = -10 / cost(5, 2) = -10 / cost(2, 3) = 0 / cost(3, 1) = 0
            """);
        Rows.test(13, "no WAY goes round the town's edge", """
            'town 3 2;' = 1 / cheapest(2, 3, -1) = 3 / cheapest(3, 2, -1) = 3 / cheapest(0, 5, -1) = 3
            quickest(2, 3, MAX) = 3 / line(2, 3, 0, 0) = 3 / fewTurns(2, 3) = 1 / fits(2, 3, 1, 0) = 0 / fits(0, 3, 1, 0) = 1
            """);
    }

    private static void laws() {
        Rows.test(6, "FREE 1, RATE 1, FORM 2, DOUBLED 0, HASTE 0 at first, and day", """
            law(0) = 1 / law(1) = 1 / law(2) = 2 / law(3) = 0 / law(4) = 0 / law(5) = 0
            """);
        Rows.test(4, "what is not told anew is as at first", """
            'tax 4 9 0;double;haste 9;' = 3 / law(0) = 4 / law(1) = 9 / law(2) = 0 / law(3) = 1 / law(4) = 9
            'town 2 1;' = 1 / law(0) = 1 / law(1) = 1 / law(2) = 2 / law(3) = 0 / law(4) = 0
            """);
        Rows.test(4, "FREE (0 .. 4)", """
            'tax 0 1 0;' = 1 / law(0) = 0
            'tax 4 1 0;' = 1 / law(0) = 4
            'tax 5 1 0;' = -14
            'tax 99 1 0;' = -14
            """);
        Rows.test(4, "RATE (1 .. 9)", """
            'tax 0 1 0;' = 1 / law(1) = 1
            'tax 0 9 0;' = 1 / law(1) = 9
            'tax 0 0 0;' = -16
            'tax 0 10 0;' = -16
            """);
        Rows.test(4, "FORM (0 .. 2)", """
            'tax 0 1 0;' = 1 / law(2) = 0
            'tax 0 1 2;' = 1 / law(2) = 2
            'tax 0 1 3;' = -18
            """);
        Rows.test(4, "HASTE (0 .. 9)", """
            'haste 0;' = 1 / law(4) = 0
            'haste 9;' = 1 / law(4) = 9
            'haste 10;' = -16
            """);
        Rows.test(4, "DOUBLED by night (0; 1 if it is told)", """
            'double;' = 1 / law(3) = 1
            '' = 0 / law(3) = 0
            """);
    }

    private static void fares() {
        Rows.test(8, "FREE 0: the first STEP of a RUN is more than FREE", """
            'town 5 1;tax 0 1 1;' = 2 / stand(0) = 1 / step(1) = 1 / step(1) = 2 / step(1) = 3 / step(1) = 4 / one(1) = 10
            """);
        Rows.test(8, "FREE 3: the fourth is more, the third is not", """
            'town 5 1;tax 3 9 2;' = 2 / stand(0) = 1 / step(1) = 0 / step(1) = 0 / step(1) = 0 / step(1) = 9 / one(1) = 9
            """);
        Rows.test(8, "FREE 4: no RUN in a town is longer", """
            'town 5 1;tax 4 9 2;' = 2 / stand(0) = 1 / step(1) = 0 / step(1) = 0 / step(1) = 0 / step(1) = 0 / one(1) = 0
            """);
        Rows.test(8, "FORM 0, 1 and 2 at FREE, one more and two more", """
            'town 5 1;tax 2 3 0;' = 2 / stand(4) = 1 / step(3) = 0 / step(3) = 0 / step(3) = 3 / step(3) = 3
            'town 5 1;tax 2 3 1;' = 2 / stand(4) = 1 / step(3) = 0 / step(3) = 0 / step(3) = 3 / step(3) = 6
            'town 5 1;tax 2 3 2;' = 2 / stand(4) = 1 / step(3) = 0 / step(3) = 0 / step(3) = 3 / step(3) = 12
            """);
        Rows.test(8, "the dearest STEPS of all: HASTE 9, RATE 9, FREE 0, FORM 2, by night and DOUBLED", """
            'town 5 1;tax 0 9 2;double;haste 9;' = 4 / dusk(1) = 0 / stand(0) = 1
            step(1) = 27 / step(1) = 81 / step(1) = 171 / step(1) = 297 / one(1) = 576
            """);
        Rows.test(8, "HASTE is no part of what is taken twice", """
            'town 2 1;tax 4 9 2;double;haste 9;' = 4 / dusk(1) = 0 / stand(0) = 1 / step(1) = 9 / step(3) = 9
            """);
        Rows.test(8, "twice only if it is night and DOUBLED", """
            'town 2 1;tax 0 1 0;double;' = 3 / stand(0) = 1 / step(1) = 1 / dusk(1) = 0 / step(3) = 2 / dusk(0) = 1 / step(1) = 1
            'town 2 1;tax 0 1 0;' = 2 / stand(0) = 1 / step(1) = 1 / dusk(1) = 0 / step(3) = 1
            """);
    }

    private static void runs() {
        Rows.test(10, "a RUN's first STEP: the first of all", """
            stand(0) = 1 / one(2) = 0 / step(1) = 0 / one(2) = 1 / step(1) = 1 / one(2) = 2
            """);
        Rows.test(10, "a RUN's first STEP: in another direction than the one ahead, right back too", """
            stand(0) = 1 / step(1) = 0 / step(1) = 1 / step(2) = 0 / one(2) = 1 / step(2) = 1 / one(2) = 2 / step(0) = 0 / one(2) = 1
            """);
        Rows.test(10, "a RUN's first STEP: the one ahead came to an ELBOW", """
            'town 5 1;elbow 2 0;' = 2 / stand(0) = 1 / step(1) = 0 / step(1) = 1 / one(0) = 2 / one(2) = 2
            step(1) = 0 / one(2) = 1 / step(1) = 1 / one(2) = 2 / step(3) = 0 / step(3) = 1 / one(2) = 2 / step(3) = 0 / one(2) = 1
            'town 2 4;elbow 1 1;elbow 1 2;' = 3 / stand(1) = 1 / step(2) = 0 / step(2) = 0 / step(2) = 0 / one(2) = 1
            """);
        Rows.test(10, "ONE who stands on an ELBOW: the second STEP goes on in its RUN", """
            'town 5 1;elbow 2 0;' = 2 / stand(2) = 1 / step(1) = 0 / one(2) = 1 / step(1) = 1 / one(2) = 2
            """);
        Rows.test(8, "what is refused, asked, or made night begins no RUN", """
            stand(4) = 1 / step(1) = 0 / step(4) = BAD / cost(5, 2) = 0 / dusk(1) = 0 / stand(12) = BAD / step(1) = 1 / one(2) = 2
            stand(0) = 1 / step(1) = 0 / step(0) = STATE / step(1) = 1 / one(2) = 2
            """);
        Rows.test(8, "a RUN behind undo, behind stand and behind back", """
            stand(0) = 1 / step(1) = 0 / step(2) = 0 / undo() = 0 / step(1) = 1 / one(2) = 2
            stand(1) = 1 / step(1) = 0 / one(2) = 1 / keep(0) = 1 / step(1) = 1 / step(3) = 0 / back(0) = 1 / step(1) = 1 / one(2) = 2
            """);
    }

    // ---- part 1: the text

    private static void longTexts() {
        Rows.test(2, "200 bytes at most", """
            blank 192 / type(0x2020202020202020, 8) = 200 / type(32, 1) = FULL / type(32, 8) = FULL / count(5) = 200 / town() = 0 / count(5) = 0
            blank 193 / type(32, 8) = FULL / count(5) = 193 / type(32, 7) = 200 / type(32, 1) = FULL / clear() = 200
            blank 199 / type(32, 2) = FULL / count(5) = 199 / type(32, 1) = 200 / type(32, 1) = FULL / clear() = 200
            type(32, 8) = 8
            """);
        Rows.test(2, "FULL: none of the bytes comes to THE TEXT", """
            blank 190 / typed 'double' / type(0x3b3b3b3b3b, 5) = FULL / count(5) = 196 / type(0x3b, 1) = 197 / town() = 1 / law(3) = 1
            """);
        String houses = "town 5 4;";
        for (int c = 1; c < 20; c++) {
            houses += "house " + c % 5 + " " + c / 5 + ";";
        }
        Rows.test(4, "a text of 200 bytes is read to its end: 19 HOUSES and a blank", "'" + houses + " ' = 20"
            + " / count(2) = 19 / square(0) = 0 / square(1) = 1 / square(19) = 1 / stand(0) = 1 / step(1) = STATE / step(2) = STATE");
        Rows.test(4, "a text of 200 bytes: the place of its last byte, and its length", """
            blank 193 / typed 'double;' / town() = 1
            blank 199 / type(33, 1) = 200 / town() = -209 / clear() = 200
            blank 194 / typed 'double' / town() = -210 / clear() = 200
            blank 199 / type(59, 1) = 200 / town() = -209 / clear() = 200
            """);
        String[] signs = {"a", "z", "0", "1", "9", ";"};
        for (String sign : signs) {
            Rows.test(4, "200 times " + sign, "'" + sign.repeat(200) + "' = -10");
        }
        Rows.test(4, "a NUMBER of 194 figures", "'haste " + "1".repeat(194) + "' = -16\n'haste " + "0".repeat(194) + "' = -16");
        Rows.test(4, "an empty text, and one of blanks alone: no ITEMS", """
            town() = 0 / '' = 0 / ' ' = 0 / blank 200 / town() = 0
            """);
    }

    private static void tokens() {
        Rows.test(4, "blanks between TOKENS, as many as there are, ahead of all and behind all", """
            'town 3 2;double;' = 2 / count(0) = 3
            '   town   3    2   ;   double   ;   ' = 2 / count(0) = 3 / count(1) = 2
            """);
        Rows.test(4, "no blank where TOKENS end without one", """
            'town5 4;house4 3;tax0 9 2;haste9;' = 4 / count(0) = 5 / square(19) = 1 / law(1) = 9 / law(4) = 9
            """);
        Rows.test(4, "a blank inside a word or a NUMBER parts it", """
            'dou ble;' = -10
            'haste 1 0;' = -18
            """);
        Rows.test(4, "a NUMBER ends where no figure comes, a word where no letter does", """
            'haste 1x;' = -17
            'haste 1double;' = -17
            'double1;' = -16
            'tax 0 1 0double;' = -19
            """);
    }

    /** Only the blank parts; only ; ends an ITEM; a byte's highest bit counts. */
    private static void everyByte() {
        for (int b = 0; b < 256; b++) {
            String sign = "\\x" + (b < 16 ? "0" : "") + Integer.toHexString(b);
            boolean letter = b >= 'a' && b <= 'z';
            boolean figure = b >= '0' && b <= '9';
            int behindWord = b == ' ' ? 1 : letter ? -10 : b == ';' ? -17 : -16;
            int behindNumber = b == ' ' ? 1 : figure ? -16 : b == ';' ? -18 : -17;
            int first = b == ' ' ? 1 : -10;
            int behindItem = b == ' ' ? 1 : -17;
            Rows.test(4, "a byte that begins no TOKEN, among all bytes: " + b,
                "'double" + sign + ";' = " + behindWord + "\n'haste 1" + sign + ";' = " + behindNumber
                + "\n'" + sign + "double;' = " + first + "\n'double;" + sign + "' = " + behindItem);
        }
    }

    private static void everyWord() {
        for (String word : WORDS) {
            StringBuilder rows = new StringBuilder();
            for (int i = 0; i < word.length(); i++) {
                String capital = word.substring(i, i + 1).toUpperCase();
                char other = word.charAt(i) == 'z' ? 'a' : (char) (word.charAt(i) + 1);
                rows.append("'").append(word, 0, i).append(" 1 1 1;' = ").append(i == 0 ? "-11\n" : "-10\n");
                rows.append("'").append(word, 0, i).append(other).append(word.substring(i + 1)).append(" 1 1;' = -10\n");
                rows.append("'").append(word, 0, i).append(capital).append(word.substring(i + 1)).append(";' = -10\n");
            }
            rows.append("'").append(word).append("s 1 1;' = -10\n'a").append(word).append(" 1 1;' = -10\n");
            rows.append("'").append(word).append(word).append(";' = -10\n");
            rows.append("'double;").append(word).append("s;' = -17\n");
            Rows.test(4, "a word that is none of these, nearly " + word, rows.toString());
        }
    }

    private static void faultsOfPlace() {
        Rows.test(4, "can't stand there: where an ITEM begins", """
            ';' = -10
            '5;' = -10
            'double;;' = -17
            'double;5;' = -17
            '   !' = -13
            """);
        Rows.test(4, "can't stand there: where a NUMBER of town is due", """
            'town;' = -14
            'town house' = -15
            'town 3;' = -16
            'town 3 tax' = -17
            """);
        Rows.test(4, "can't stand there: where a NUMBER of house or elbow is due", """
            'house;' = -15
            'house elbow' = -16
            'house 0;' = -17
            'house 0 double' = -18
            'elbow;' = -15
            'elbow house' = -16
            'elbow 0;' = -17
            'elbow 0 haste' = -18
            """);
        Rows.test(4, "can't stand there: where a NUMBER of tax or haste is due", """
            'tax;' = -13
            'tax town' = -14
            'tax 0;' = -15
            'tax 0 town' = -16
            'tax 0 1;' = -17
            'tax 0 1 town' = -18
            'haste;' = -15
            'haste haste' = -16
            """);
        Rows.test(4, "can't stand there: where ; is due", """
            'town 3 3 3;' = -19
            'town 3 3 double;' = -19
            'house 0 0 0;' = -20
            'elbow 0 0 house' = -20
            'tax 0 1 0 0;' = -20
            'tax 0 1 0 tax' = -20
            'double 0;' = -17
            'double double;' = -17
            'haste 0 0;' = -18
            'haste 0 double;' = -18
            """);
        Rows.test(4, "the first of several faults", """
            'haste 10;!' = -16
            'house 4 9;' = -16
            '! haste 10;' = -10
            'double double double' = -17
            """);
    }

    private static void faultsOfItems() {
        Rows.test(4, "town is the first of all, if it is told: behind any other ITEM it is a fault", """
            'town 3 3;town 3 3;' = -19
            'house 0 0;town 3 3;' = -20
            'elbow 0 0;town 3 3;' = -20
            'tax 0 1 0;town 3 3;' = -20
            'double;town 3 3;' = -17
            'haste 0;town 3 3;' = -18
            'town 3 3;double;town' = -26
            """);
        Rows.test(4, "a Y by which a SQUARE has a HOUSE or an ELBOW already", """
            'house 0 0;house 0 0;' = -28
            'house 1 1;elbow 1 1;' = -28
            'elbow 3 2;house 3 2;' = -28
            'elbow 0 2;elbow 0 2;' = -28
            'town 5 4;elbow 4 3;house 4 3;' = -37
            'house 1 1;house 2 1;house 1 1;' = -38
            """);
        Rows.test(4, "the same X or the same Y alone is no fault", """
            'house 1 1;house 1 2;house 2 1;elbow 1 0;elbow 0 1;' = 5 / count(2) = 3 / count(3) = 2
            """);
        Rows.test(4, "told again that may not (once each at most)", """
            'tax 0 1 0;tax 0 1 0;' = -20
            'double;double;' = -17
            'haste 0;haste 0;' = -18
            'tax 0 1 0;double;haste 0;tax' = -35
            'double;tax 0 1 0;haste 0;double' = -35
            'haste 0;double;tax 0 1 0;haste' = -35
            """);
        Rows.test(4, "once each in one text: in the next one they may be told again", """
            'tax 0 1 0;double;haste 3;' = 3
            'tax 0 1 0;double;haste 4;' = 3 / law(4) = 4
            'tax 0 1 0;double;haste 4;!' = -35
            'tax 0 1 0;double;haste 5;' = 3 / law(4) = 5
            'house 0 0;!' = -20
            'house 0 0;' = 1 / count(2) = 1
            """);
        Rows.test(4, "once each at most, and in any order behind town", """
            'town 2 1;haste 1;elbow 0 0;double;house 1 0;tax 1 2 1;' = 6 / law(0) = 1 / law(1) = 2 / law(2) = 1 / law(3) = 1 / law(4) = 1
            """);
        Rows.test(4, "every SQUARE may have a HOUSE or an ELBOW", """
            'town 2 1;house 0 0;house 1 0;' = 3 / count(2) = 2 / count(3) = 0 / stand(0) = BAD / stand(1) = BAD
            'town 2 1;elbow 1 0;elbow 0 0;' = 3 / count(2) = 0 / count(3) = 2 / stand(0) = 1 / step(1) = 0
            """);
    }

    private static void faultsOfNumbers() {
        Rows.test(4, "X and Y beyond the town that the text tells", """
            'town 2 1;house 1 0;' = 2
            'town 2 1;house 2 0;' = -25
            'town 2 1;elbow 0 1;' = -27
            'town 5 4;house 4 3;' = 2
            'town 5 4;elbow 5 3;' = -25
            'town 5 4;house 4 4;' = -27
            """);
        Rows.test(4, "X and Y beyond 4 by 3, if the text tells no town, whatever stood ahead", """
            'elbow 3 2;' = 1
            'elbow 4 2;' = -16
            'elbow 3 3;' = -18
            'town 5 4;' = 1
            'house 4 2;' = -16
            'house 3 3;' = -18
            'town 2 1;' = 1
            'house 3 2;' = 1
            'town 5 4;!' = -19
            'house 4 2;' = -16
            """);
        Rows.test(4, "a NUMBER above 99, however many figures it has", """
            'haste 99;' = -16
            'haste 100;' = -16
            'haste 101;' = -16
            'haste 256;' = -16
            'haste 257;' = -16
            'haste 65537;' = -16
            'haste 4294967296;' = -16
            'haste 4294967297;' = -16
            'haste 18446744073709551616;' = -16
            'haste 18446744073709551617;' = -16
            '100;' = -10
            'double 100;' = -17
            'tax 0 100 0;' = -16
            """);
        Rows.test(4, "a NUMBER with a 0 ahead of others; 0 alone is one", """
            'haste 00;' = -16
            'haste 01;' = -16
            'haste 09;' = -16
            'haste 010;' = -16
            'haste 0;' = 1
            'town 02 1;' = -15
            'town 2 01;' = -17
            'tax 00 1 0;' = -14
            'tax 0 01 0;' = -16
            'tax 0 1 00;' = -18
            'house 0 00;' = -18
            """);
    }

    /** Each beginning of a text of all ITEMS: whole ITEMS, a word that is broken off, or a TOKEN that is missing. */
    private static void endsTooEarly() {
        String text = "town 5 4;house 0 0; elbow 1 0 ;tax 1 2 1; double ;haste 3;";
        for (int length = 0; length <= text.length(); length++) {
            String begun = text.substring(0, length);
            int word = length;
            while (word > 0 && Character.isLetter(begun.charAt(word - 1))) {
                word--;
            }
            int items = begun.length() - begun.replace(";", "").length();
            int want;
            if (begun.isBlank() || begun.strip().endsWith(";")) {
                want = items;
            } else if (word < length && !java.util.Arrays.asList(WORDS).contains(begun.substring(word))) {
                want = -10 - word;
            } else {
                want = -10 - length;
            }
            Rows.test(4, "the text's length, if it ends too early: the first " + length + " bytes", "'" + begun + "' = " + want);
        }
        Rows.test(4, "the text's length, blanks behind the last TOKEN too", """
            'double ' = -17
            'double     ' = -21
            'town     ' = -19
            'tax 0 1     ' = -22
            """);
    }

    // ---- part 2: one who goes

    private static void goes() {
        Rows.test(10, "ONE stands on none at first, has PAID nothing, and may not STEP", """
            one(0) = NONE / one(1) = 0 / one(2) = 0 / one(3) = NONE / one(4) = 0
            step(0) = STATE / step(1) = STATE / step(2) = STATE / step(3) = STATE / undo() = STATE
            """);
        Rows.test(7, "a SQUARE without a HOUSE: an ELBOW is none", """
            'house 0 0;elbow 1 0;' = 2 / stand(0) = BAD / one(0) = NONE / stand(1) = 1 / one(0) = 1
            """);
        Rows.test(8, "60 STEPS at most since it stood there", """
            'town 2 1;haste 1;' = 2 / stand(0) = 1
            30 x step(1) = 1 / step(3) = 1
            one(4) = 60 / one(1) = 60 / step(1) = FULL / one(4) = 60 / one(0) = 0 / one(2) = 1 / one(3) = 3
            undo() = 1 / one(4) = 59 / step(3) = 1 / step(1) = FULL
            stand(1) = 1 / one(4) = 0 / one(1) = 0
            30 x step(3) = 1 / step(1) = 1
            step(3) = FULL / one(1) = 60
            """);
        Rows.test(8, "60 STEPS at most, those of an IMAGE too", """
            'town 2 1;' = 1 / stand(0) = 1 / keep(1) = 0
            29 x step(1) = 0 / step(3) = 0
            step(1) = 0 / keep(0) = 59 / step(3) = 0 / step(1) = FULL / back(0) = 59 / step(3) = 0 / step(1) = FULL
            back(1) = 0 / step(1) = 0 / one(4) = 1
            """);
        Rows.test(9, "60 STEPS may be UNDONE, one by one, and none more", """
            'town 2 1;haste 2;' = 2 / stand(0) = 1
            30 x step(1) = 2 / step(3) = 2
            60 x undo() = 2
            undo() = STATE / one(0) = 0 / one(1) = 0 / one(4) = 0 / step(1) = 2
            """);
    }

    private static void undone() {
        Rows.test(9, "UNDONE: its last STEP, and what it paid then, whatever the tax is now", """
            'town 3 1;tax 0 1 1;double;haste 2;' = 4 / stand(0) = 1 / step(1) = 3 / dusk(1) = 0 / step(1) = 6 / one(1) = 9
            dusk(0) = 1 / undo() = 6 / one(1) = 3 / one(0) = 1 / one(2) = 1 / one(3) = 1 / one(4) = 1 / law(5) = 0
            undo() = 3 / one(1) = 0 / one(0) = 0 / one(2) = 0 / one(3) = NONE / one(4) = 0 / undo() = STATE
            """);
        Rows.test(9, "a STEP that was refused is none to be UNDONE", """
            stand(0) = 1 / step(0) = STATE / step(4) = BAD / undo() = STATE / one(0) = 0
            """);
    }

    private static void dayAndNight() {
        Rows.test(11, "It is day (at first) or night", """
            law(5) = 0 / dusk(0) = 0 / law(5) = 0 / dusk(1) = 0 / law(5) = 1 / dusk(1) = 1 / dusk(0) = 1 / law(5) = 0
            """);
        Rows.test(12, "by day or night as it is: every WAY", """
            'town 3 1;tax 0 1 1;double;' = 3 / errand(0, 2) = 1
            cost(0, 22) = 3 / cheapest(0, 2, -2) = 3 / quickest(0, 2, 3) = 2 / quickest(0, 2, 2) = NONE / line(0, 2, 0, 1) = 3
            round(0, 4) = 6 / help(1) = 2 / fits(0, 2, 2, 3) = 1 / fits(0, 2, 2, 6) = 0
            dusk(1) = 0 / cost(0, 22) = 6 / cheapest(0, 2, -2) = 6 / quickest(0, 2, 6) = 2 / quickest(0, 2, 5) = NONE
            line(0, 2, 0, 1) = 6 / round(0, 4) = 12 / help(1) = 4 / fits(0, 2, 2, 3) = 0 / fits(0, 2, 2, 6) = 1
            """);
        Rows.test(12, "Nothing is changed: ONE's RUN is no part of a WAY", """
            stand(0) = 1 / step(1) = 0 / cost(1, 2) = 0 / cheapest(1, 2, -2) = 0 / quickest(1, 2, 0) = 1 / fits(1, 2, 1, 0) = 1
            one(0) = 1 / one(1) = 0 / one(4) = 1 / step(1) = 1
            """);
    }

    // ---- part 3: ways

    private static void waysOfNoSteps() {
        Rows.test(13, "a WAY of no STEPS costs nothing, under the dearest law", """
            'town 2 1;tax 0 9 2;double;haste 9;' = 4 / dusk(1) = 0 / cost(0, 0) = 0 / cost(1, 0) = 0
            cheapest(0, 0, -2) = 0 / cheapest(0, 0, -1) = 0 / cheapest(0, 0, 0) = -5 / cheapest(1, 1, MAX) = -5
            quickest(0, 0, 0) = 0 / quickest(1, 1, MAX) = 0
            line(0, 0, -1, 0) = 1 / line(0, 0, 0, 0) = 0 / line(0, 0, 0, 1) = 0 / line(0, 0, 1, 0) = -5
            fewTurns(0, 0) = 0 / round(0, 0) = 0 / round(0, 1) = 0 / round(1, 2) = 0
            fits(0, 0, 0, 0) = 1 / fits(0, 0, 0, 1) = 0 / fits(0, 1, 0, 0) = 0 / fits(0, 0, 0, MAX) = 0
            errand(0, 0) = 1 / help(0) = 0 / help(1) = 0
            """);
        Rows.test(13, "a WAY of no STEPS, from a SQUARE that no STEP leaves", """
            'town 2 1;house 1 0;' = 2 / cost(0, 0) = 0 / cheapest(0, 0, -2) = 0 / cheapest(0, 0, -1) = 0 / cheapest(0, 0, 0) = -5
            quickest(0, 0, 0) = 0 / line(0, 0, -1, 1) = 1 / line(0, 0, 0, 0) = 0 / fewTurns(0, 0) = 0 / round(0, 1) = 0
            fits(0, 0, 0, 0) = 1 / fits(0, 0, 8, 0) = 0 / errand(0, 0) = 1 / help(0) = 0 / help(1) = 0
            """);
    }

    private static void noWay() {
        Rows.test(13, "NONE: there is no WAY, whatever of it is asked", """
            'town 3 1;house 1 0;' = 2
            cheapest(0, 2, -2) = NONE / cheapest(0, 2, -1) = NONE / cheapest(0, 2, 0) = NONE / cheapest(2, 0, MAX) = NONE
            """);
        Rows.test(14, "NONE: no WAY, or none for so few pence", """
            'town 3 1;house 1 0;' = 2 / quickest(0, 2, 0) = NONE / quickest(2, 0, MAX) = NONE
            'town 2 1;haste 9;tax 0 9 2;' = 3 / quickest(0, 1, 17) = NONE / quickest(0, 1, 18) = 1 / quickest(0, 1, 0) = NONE
            """);
        Rows.test(15, "no WAY: a LINE without corners", """
            'town 3 1;house 1 0;' = 2 / line(0, 2, -1, 0) = 0 / line(0, 2, -1, 1) = 0 / line(0, 2, 0, 0) = -5 / line(2, 0, 0, 1) = -5
            """);
        Rows.test(16, "NONE: there is no WAY", """
            'town 3 1;house 1 0;' = 2 / fewTurns(0, 2) = NONE / fewTurns(2, 0) = NONE
            'town 2 2;house 1 0;house 0 1;' = 3 / fewTurns(0, 3) = NONE / fewTurns(3, 0) = NONE
            """);
        Rows.test(17, "NONE: one of the PLACES has no WAY", """
            'town 4 1;house 1 0;' = 2 / round(0, 4) = NONE / round(0, 12) = NONE / round(2, 9) = NONE / round(2, 1) = NONE
            round(2, 8) = 0 / round(2, 12) = 0 / round(0, 1) = 0 / round(0, 5) = NONE
            """);
        Rows.test(20, "NONE: an ERRAND has no WAY, the last one too", """
            'town 3 1;house 1 0;' = 2 / errand(0, 0) = 1 / help(0) = 0 / errand(2, 2) = 2 / help(1) = 0
            errand(0, 2) = 3 / help(0) = NONE / help(1) = NONE / home() = 3 / help(0) = 0
            errand(2, 0) = 1 / help(0) = NONE / errand(0, 0) = 2 / help(1) = NONE
            """);
        Rows.test(20, "NONE: several ERRANDS have no WAY; none of them counts any more behind home", """
            'town 3 1;house 1 0;' = 2 / errand(0, 2) = 1 / errand(2, 0) = 2 / help(0) = NONE / help(1) = NONE / errand(0, 2) = 3 / help(1) = NONE
            errand(0, 2) = 4 / help(1) = NONE / home() = 4 / help(0) = 0 / help(1) = 0 / errand(0, 0) = 1 / help(0) = 0
            """);
        Rows.test(20, "NONE: no SQUARE without HOUSE or ELBOW, with and without ERRANDS", """
            'town 2 1;house 0 0;elbow 1 0;' = 3 / help(0) = NONE / help(1) = NONE / errand(1, 1) = 1 / help(0) = NONE / help(1) = NONE
            'town 2 1;elbow 0 0;elbow 1 0;' = 3 / help(0) = NONE / errand(0, 1) = 1 / help(1) = NONE
            'town 2 1;elbow 0 0;' = 2 / help(0) = 1 / help(1) = 0
            """);
        Rows.test(21, "no WAY: none that fits", """
            'town 3 1;house 1 0;' = 2 / fits(0, 2, 2, 0) = 0 / fits(0, 2, 8, 0) = 0
            """);
        Rows.test(13, "a town of HOUSES alone has no WAYS to ask for", """
            'town 2 1;house 0 0;house 1 0;' = 3 / cost(0, 0) = BAD / cheapest(0, 0, -2) = BAD / quickest(1, 1, 0) = BAD
            line(0, 0, -1, 0) = BAD / fewTurns(1, 1) = BAD / round(0, 0) = BAD / errand(0, 0) = BAD / fits(0, 0, 0, 0) = BAD
            help(0) = NONE / help(1) = NONE / stand(0) = BAD
            """);
    }

    private static void whichWay() {
        Rows.test(13, "the first (n ahead of e, s, w, STEP by STEP)", """
            'town 3 3;tax 4 1 0;haste 1;' = 3
            cheapest(6, 2, 0) = 0 / cheapest(6, 2, 1) = 0 / cheapest(6, 2, 2) = 1 / cheapest(6, 2, 3) = 1 / cheapest(6, 2, 4) = -5
            cheapest(0, 8, 0) = 1 / cheapest(0, 8, 1) = 1 / cheapest(0, 8, 2) = 2 / cheapest(0, 8, 3) = 2 / cheapest(0, 8, 4) = -5
            cheapest(2, 6, 0) = 2 / cheapest(2, 6, 1) = 2 / cheapest(2, 6, 2) = 3 / cheapest(2, 6, 3) = 3 / cheapest(2, 6, 4) = -5
            cheapest(8, 0, 0) = 0 / cheapest(8, 0, 1) = 0 / cheapest(8, 0, 2) = 3 / cheapest(8, 0, 3) = 3 / cheapest(8, 0, 4) = -5
            """);
        Rows.test(13, "the first of two detours: n ahead of s, and e ahead of w", """
            'town 3 3;house 1 1;' = 2 / cheapest(3, 5, -2) = 1 / cheapest(3, 5, -1) = 4
            cheapest(3, 5, 0) = 0 / cheapest(3, 5, 1) = 1 / cheapest(3, 5, 2) = 1 / cheapest(3, 5, 3) = 2
            cheapest(1, 7, -2) = 1 / cheapest(1, 7, 0) = 1 / cheapest(1, 7, 1) = 2 / cheapest(1, 7, 2) = 2 / cheapest(1, 7, 3) = 3
            """);
        Rows.test(13, "the fewest STEPS weigh more than the first direction", """
            'town 3 3;tax 4 9 2;' = 2 / cheapest(3, 5, -2) = 0 / cheapest(3, 5, -1) = 2 / cheapest(3, 5, 0) = 1 / cheapest(3, 5, 1) = 1
            cheapest(0, 6, -1) = 2 / cheapest(0, 6, 0) = 2
            """);
        Rows.test(13, "the least cost weighs more than the fewest STEPS", """
            'town 5 1;tax 1 9 2;' = 2 / cheapest(0, 4, -2) = 27 / cheapest(0, 4, -1) = 8 / cost(0, 2222) = 126
            cheapest(0, 4, 0) = 1 / cheapest(0, 4, 1) = 1 / cheapest(0, 4, 2) = 3 / cheapest(0, 4, 3) = 1 / cheapest(0, 4, 4) = 1
            cheapest(0, 4, 5) = 3 / cheapest(0, 4, 6) = 1 / cheapest(0, 4, 7) = 1 / cheapest(0, 4, 8) = -5
            """);
        Rows.test(13, "of as cheap and as short ones the first, where it turns later", """
            'town 5 1;tax 2 9 2;' = 2 / cheapest(0, 3, -2) = 0 / cheapest(0, 3, -1) = 5
            cheapest(0, 3, 0) = 1 / cheapest(0, 3, 1) = 1 / cheapest(0, 3, 2) = 3 / cheapest(0, 3, 3) = 1 / cheapest(0, 3, 4) = 1
            """);
    }

    private static void quickestAndLine() {
        Rows.test(14, "a WAY that costs no more: just so much, and one less", """
            'town 5 1;tax 0 9 2;double;haste 9;' = 4 / dusk(1) = 0
            quickest(0, 4, MAX) = 4 / quickest(0, 4, 577) = 4 / quickest(0, 4, 576) = 4 / quickest(0, 4, 575) = 6
            quickest(0, 4, 414) = 6 / quickest(0, 4, 413) = 8 / quickest(0, 4, 378) = 8 / quickest(0, 4, 377) = NONE / quickest(0, 4, 0) = NONE
            """);
        Rows.test(15, "corners: less than for any fewer", """
            'town 5 1;tax 0 9 2;double;haste 9;' = 4 / dusk(1) = 0 / line(0, 4, -1, 0) = 3
            line(0, 4, 0, 0) = 4 / line(0, 4, 0, 1) = 576 / line(0, 4, 1, 0) = 6 / line(0, 4, 1, 1) = 414
            line(0, 4, 2, 0) = 8 / line(0, 4, 2, 1) = 378 / line(0, 4, 3, 0) = -5 / line(0, 4, 3, 1) = -5
            """);
        Rows.test(14, "one STEP in each direction, to the first SQUARE and to the last", """
            'town 2 2;haste 1;' = 2 / quickest(1, 0, 1) = 1 / quickest(2, 0, 1) = 1 / quickest(1, 3, 1) = 1 / quickest(2, 3, 1) = 1 / quickest(3, 0, 2) = 2
            line(1, 0, 0, 0) = 1 / line(2, 0, 0, 0) = 1 / line(1, 3, 0, 1) = 1 / line(2, 3, 0, 1) = 1 / line(0, 3, 0, 0) = 2
            cheapest(1, 0, 0) = 3 / cheapest(2, 0, 0) = 0 / cheapest(1, 3, 0) = 2 / cheapest(2, 3, 0) = 1
            fits(1, 0, 1, 1) = 1 / fits(2, 0, 1, 1) = 1 / fits(1, 3, 1, 1) = 1 / fits(2, 3, 1, 1) = 1 / fits(0, 3, 1, 1) = 0
            fewTurns(1, 0) = 0 / fewTurns(2, 0) = 0 / fewTurns(1, 3) = 0 / fewTurns(2, 3) = 0 / fewTurns(3, 0) = 1
            """);
        Rows.test(15, "as much for more STEPS is no corner", """
            'town 2 1;tax 4 1 0;' = 2 / line(0, 1, -1, 0) = 1 / line(0, 1, 0, 0) = 1 / line(0, 1, 0, 1) = 0 / line(0, 1, 1, 0) = -5
            'town 5 4;tax 4 1 0;haste 1;' = 3 / line(0, 19, -1, 0) = 1 / line(0, 19, 0, 0) = 7 / line(0, 19, 0, 1) = 7
            """);
        // Three long streets: a CHEAPEST WAY of 21 STEPS and six corners. No town was found with one of more than 22.
        String streets = "'town 5 4;house 0 1;house 1 1;house 2 1;house 3 1;house 0 2;house 1 2;house 2 2;house 3 2;tax 2 9 2;' = 10\n";
        Rows.test(15, "many corners (0 .. 60)", streets + """
            line(0, 15, -1, 0) = 6 / line(0, 15, 0, 0) = 11 / line(0, 15, 0, 1) = 99 / line(0, 15, 1, 0) = 13 / line(0, 15, 1, 1) = 63
            line(0, 15, 2, 0) = 15 / line(0, 15, 2, 1) = 27 / line(0, 15, 3, 0) = 17 / line(0, 15, 3, 1) = 18
            line(0, 15, 4, 0) = 19 / line(0, 15, 4, 1) = 9 / line(0, 15, 5, 0) = 21 / line(0, 15, 5, 1) = 0 / line(0, 15, 6, 0) = -5
            """);
        Rows.test(14, "the fewest STEPS (60 at most), for each corner and one less", streets + """
            quickest(0, 15, 99) = 11 / quickest(0, 15, 98) = 13 / quickest(0, 15, 63) = 13 / quickest(0, 15, 62) = 15
            quickest(0, 15, 27) = 15 / quickest(0, 15, 26) = 17 / quickest(0, 15, 18) = 17 / quickest(0, 15, 17) = 19
            quickest(0, 15, 9) = 19 / quickest(0, 15, 8) = 21 / quickest(0, 15, 0) = 21
            """);
        Rows.test(13, "a CHEAPEST WAY of many STEPS", streets + """
            cheapest(0, 15, -2) = 0 / cheapest(0, 15, -1) = 21 / cheapest(0, 15, 0) = 1 / cheapest(0, 15, 2) = 3
            cheapest(0, 15, 20) = 3 / cheapest(0, 15, 21) = -5
            """);
    }

    private static void turns() {
        Rows.test(16, "an ELBOW is no turn, and no STEPS have none", """
            'town 5 1;elbow 2 0;' = 2 / fewTurns(0, 4) = 0 / fewTurns(4, 0) = 0 / fewTurns(2, 2) = 0 / fewTurns(2, 3) = 0
            """);
        Rows.test(16, "the fewest times, however long and dear it is", """
            'town 5 4;tax 0 9 2;haste 9;house 1 1;house 2 1;house 3 1;' = 6 / fewTurns(5, 9) = 2 / fewTurns(0, 19) = 1 / fewTurns(0, 4) = 0
            """);
        Rows.test(16, "a town of stairs: a turn at every SQUARE", """
            'town 5 4;house 1 0;house 2 0;house 3 0;house 2 1;house 3 1;house 0 2;house 3 2;house 0 3;house 1 3;house 4 2;' = 11
            fewTurns(0, 5) = 0 / fewTurns(0, 6) = 1 / fewTurns(0, 11) = 2 / fewTurns(0, 12) = 3 / fewTurns(0, 17) = 4
            fewTurns(0, 18) = 5 / fewTurns(0, 19) = 5 / fewTurns(19, 0) = 5
            """);
    }

    private static void rounds() {
        Rows.test(17, "PLACES (4 at most), the first one among them or not", """
            'town 5 1;tax 0 1 1;' = 2 / round(0, 0) = 0 / round(0, 30) = 11 / round(0, 15) = 8 / round(0, 31) = BAD
            round(4, 15) = 11 / round(4, 30) = 8 / round(2, 27) = 11
            """);
        Rows.test(17, "each CHEAPEST WAY begins a new RUN", """
            'town 3 1;tax 1 9 2;' = 2 / round(0, 4) = 18 / round(0, 2) = 0 / round(0, 6) = 9 / round(0, 7) = 9
            """);
        Rows.test(17, "in the best order, and back", """
            'town 5 1;tax 4 1 0;haste 1;' = 3 / round(2, 17) = 8 / round(2, 27) = 8 / round(0, 16) = 8 / round(0, 22) = 8 / round(1, 16) = 6
            """);
        Rows.test(17, "the dearest round", """
            'town 5 1;tax 0 9 2;double;haste 9;' = 4 / dusk(1) = 0 / round(0, 16) = 756
            """);
    }

    private static void errandsAndHelp() {
        Rows.test(18, "ERRANDS (6 at most), the same again too", """
            errand(0, 1) = 1 / errand(0, 1) = 2 / errand(1, 1) = 3 / errand(11, 0) = 4 / errand(0, 11) = 5 / errand(5, 6) = 6
            errand(0, 1) = FULL / count(4) = 6 / home() = 6 / count(4) = 0 / errand(0, 1) = 1
            """);
        Rows.test(20, "no ERRANDS: the least SQUARE without HOUSE or ELBOW, for nothing", """
            help(0) = 0 / help(1) = 0
            'house 0 0;elbow 1 0;house 2 0;' = 3 / help(0) = 3 / help(1) = 0
            'town 2 1;house 0 0;' = 2 / help(0) = 1 / help(1) = 0
            """);
        Rows.test(20, "of several the least", """
            'town 5 1;tax 1 1 2;' = 2 / errand(0, 4) = 1 / help(0) = 1 / help(1) = 2
            'town 5 1;tax 1 1 2;elbow 1 0;' = 3 / errand(0, 4) = 1 / help(0) = 2 / help(1) = 1
            'town 3 3;tax 4 1 0;haste 1;' = 3 / errand(8, 0) = 1 / help(0) = 0 / help(1) = 4
            'town 3 3;tax 4 1 0;haste 1;house 0 0;elbow 1 0;' = 5 / errand(8, 2) = 1 / help(0) = 2 / help(1) = 2
            """);
        Rows.test(20, "the ELBOW is not put on a SQUARE with a HOUSE, nor where it helps less", """
            'town 3 4;tax 0 9 2;house 0 3;house 1 3;house 0 1;house 1 1;house 0 2;house 1 2;' = 8
            errand(5, 11) = 1 / help(0) = 8 / errand(11, 11) = 2 / help(1) = 18 / cheapest(5, 11, -2) = 45
            """);
        Rows.test(20, "what six ERRANDS cost together under the dearest law", """
            'town 5 1;tax 0 9 2;double;haste 9;' = 4 / dusk(1) = 0
            3 x errand(0, 4) = 1 / home() = 1
            errand(0, 4) = 1 / errand(0, 4) = 2 / errand(0, 4) = 3 / errand(4, 0) = 4 / errand(4, 0) = 5 / errand(4, 0) = 6
            help(0) = 2 / help(1) = 1296 / errand(0, 0) = FULL / help(1) = 1296
            """);
        Rows.test(20, "HELP puts no ELBOW", """
            'town 3 1;tax 0 1 2;' = 2 / errand(0, 2) = 1 / help(0) = 1 / help(1) = 2 / count(3) = 0 / square(1) = 0 / cheapest(0, 2, -2) = 5
            """);
    }

    private static void fits() {
        Rows.test(21, "n (0 .. 8) STEPS", """
            'town 2 1;tax 4 1 0;' = 2 / fits(0, 0, 0, 0) = 1 / fits(0, 0, 8, 0) = 1 / fits(0, 1, 7, 0) = 1 / fits(0, 1, 8, 0) = 0
            fits(0, 0, 9, 0) = BAD / fits(0, 0, -1, 0) = BAD
            """);
        Rows.test(21, "just so much: not one less, not one more", """
            'town 2 1;tax 0 9 2;double;haste 9;' = 4 / dusk(1) = 0 / fits(0, 0, 8, 216) = 1 / fits(0, 0, 8, 215) = 0 / fits(0, 0, 8, 217) = 0
            'town 5 1;tax 0 9 2;double;haste 9;' = 4 / dusk(1) = 0 / fits(0, 4, 4, 576) = 1 / fits(0, 4, 4, 575) = 0
            fits(0, 4, 6, 414) = 2 / fits(0, 4, 8, 378) = 1 / fits(0, 0, 8, 1152) = 1 / fits(0, 0, 8, MAX) = 0
            """);
        // In 3 by 3, from the middle and back: 2 steps 4 ways, 4 steps 32, 6 steps 256, 8 steps 2048.
        Rows.test(21, "the most WAYS, each one counted", """
            'town 3 3;tax 4 1 0;' = 2 / fits(4, 4, 2, 0) = 4 / fits(4, 4, 4, 0) = 32 / fits(4, 4, 6, 0) = 256 / fits(4, 4, 8, 0) = 2048
            """);
    }

    // ---- part 4: kinds and images

    private static void kinds() {
        Rows.test(22, "each KIND, ONE on no SQUARE", """
            rating(0) = 0 / rating(1) = 0 / rating(2) = 0 / rating(3) = 0 / rating(4) = 0 / rating(5) = 0
            6 x errand(0, 0) = 1 / home() = 1
            errand(0, 1) = 1 / errand(0, 1) = 2 / errand(0, 1) = 3 / errand(0, 1) = 4 / errand(0, 1) = 5 / errand(0, 1) = 6
            rating(5) = 6 / rating(4) = 0 / rating(3) = 0
            """);
        Rows.test(22, "LAWYER: its SQUARE, the first and the last", """
            'town 5 4;' = 1 / stand(0) = 1 / rating(4) = 0 / stand(19) = 1 / rating(4) = 19 / rating(2) = 0
            """);
        Rows.test(22, "each KIND behind 60 STEPS of the dearest, and six ERRANDS", """
            'town 5 1;tax 0 9 2;double;haste 9;' = 4 / dusk(1) = 0 / stand(0) = 1
            7 x step(1) = 27 / step(1) = 81 / step(1) = 171 / step(1) = 297 / step(3) = 27 / step(3) = 81 / step(3) = 171 / step(3) = 297
            step(1) = 27 / step(1) = 81 / step(1) = 171 / step(1) = 297
            errand(0, 1) = 1 / errand(0, 1) = 2 / errand(0, 1) = 3 / errand(0, 1) = 4 / errand(0, 1) = 5 / errand(0, 1) = 6
            one(1) = 8640 / one(4) = 60 / one(2) = 4 / one(0) = 4
            rating(0) = 8640 / rating(1) = 8700 / rating(2) = 8636 / rating(3) = 17400 / rating(4) = 8640 / rating(5) = 8646 / trace() = 111226
            """);
        Rows.test(22, "a RATING below 0", """
            'town 5 1;tax 4 1 0;' = 2 / stand(4) = 1 / step(3) = 0 / step(3) = 0 / step(3) = 0 / step(3) = 0
            rating(2) = -4 / rating(4) = -4 / rating(1) = 4 / rating(3) = 8
            undo() = 0 / rating(2) = -3 / rating(4) = -2 / rating(1) = 3
            """);
        Rows.test(26, "THE TRACE is 0 at first; rating() asks each body once", """
            trace() = 0 / rating(0) = 0 / trace() = 1 / rating(1) = 0 / trace() = 12 / rating(2) = 0 / trace() = 113
            rating(3) = 0 / trace() = 1124 / rating(4) = 0 / trace() = 11225 / rating(5) = 0 / trace() = 111226
            """);
        Rows.test(26, "no other call adds to THE TRACE, nor one that is refused", """
            rating(5) = 0 / rating(6) = NO / rating(-1) = NO / stand(0) = 1 / step(1) = 0 / undo() = 0 / keep(0) = 0 / back(0) = 0
            errand(0, 1) = 1 / help(0) = 0 / home() = 1 / 'double;' = 1 / trace() = 100001
            """);
    }

    private static void images() {
        Rows.test(23, "IMAGES 0, 1 keep where ONE stands, its STEPS, what it PAID, day or night", """
            'town 5 1;tax 0 1 1;double;' = 3 / keep(1) = 0 / dusk(1) = 0 / stand(0) = 1 / step(1) = 2 / step(1) = 4 / keep(0) = 2
            dusk(0) = 1 / stand(4) = 1 / step(3) = 1 / back(0) = 2 / one(0) = 2 / one(1) = 6 / one(2) = 2 / one(3) = 1 / one(4) = 2 / law(5) = 1
            back(1) = 0 / one(0) = NONE / one(1) = 0 / one(2) = 0 / one(3) = NONE / one(4) = 0 / law(5) = 0 / undo() = STATE / step(1) = STATE
            back(0) = 2 / undo() = 4 / undo() = 2 / undo() = STATE / one(0) = 0
            """);
        Rows.test(24, "nothing else: ERRANDS, THE TEXT and THE TRACE stay as they are now", """
            stand(0) = 1 / errand(0, 1) = 1 / keep(0) = 0 / errand(0, 2) = 2 / typed 'dou' / rating(0) = 0 / back(0) = 0
            count(4) = 2 / count(5) = 3 / trace() = 1 / home() = 2 / clear() = 3 / back(0) = 0 / count(4) = 0 / count(5) = 0
            """);
        Rows.test(23, "an IMAGE is kept anew, the other one stays", """
            stand(0) = 1 / step(1) = 0 / keep(0) = 1 / keep(1) = 1 / step(2) = 0 / keep(0) = 2 / back(1) = 1 / one(0) = 1
            back(0) = 2 / one(0) = 5 / stand(11) = 1 / keep(0) = 0 / back(1) = 1 / back(0) = 0 / one(0) = 11
            """);
        Rows.test(24, "an IMAGE is the same however often it is taken", """
            'haste 1;' = 1 / stand(0) = 1 / step(1) = 1 / step(2) = 1 / keep(0) = 2
            undo() = 1 / undo() = 1 / step(2) = 1 / step(2) = 2 / step(1) = 1 / back(0) = 2 / one(0) = 5 / one(1) = 2
            undo() = 1 / step(1) = 2 / back(0) = 2 / undo() = 1 / one(0) = 1 / undo() = 1 / one(0) = 0
            """);
        Rows.test(24, "its STEPS: where each began, its direction, its RUN and what it PAID for it", """
            'town 5 4;tax 0 1 1;' = 2 / stand(0) = 1 / step(1) = 1 / step(1) = 2 / step(1) = 3 / keep(0) = 3
            stand(19) = 1 / step(3) = 1 / step(0) = 1 / step(3) = 1 / keep(1) = 3 / back(0) = 3 / one(2) = 3 / one(3) = 1 / step(1) = 4
            undo() = 4 / undo() = 3 / one(0) = 2 / one(2) = 2 / undo() = 2 / one(0) = 1 / undo() = 1 / one(0) = 0 / one(1) = 0
            back(1) = 3 / one(2) = 1 / one(3) = 3 / undo() = 1 / one(0) = 13 / one(3) = 0 / undo() = 1 / one(0) = 18 / undo() = 1 / one(0) = 19
            """);
        Rows.test(24, "IMAGES of 0 and of 60 STEPS", """
            'town 2 1;haste 1;' = 2 / stand(1) = 1 / keep(0) = 0
            30 x step(3) = 1 / step(1) = 1
            keep(1) = 60 / back(0) = 0 / undo() = STATE / one(1) = 0 / back(1) = 60 / one(1) = 60 / step(3) = FULL / keep(0) = 60 / stand(0) = 1
            back(0) = 60 / undo() = 1 / one(4) = 59
            """);
    }

    private static void readAnew() {
        Rows.test(4, "Read anew: ONE stands nowhere, it is day, no ERRANDS, IMAGES are gone, THE TEXT is empty", """
            'town 2 2;house 1 1;elbow 1 0;tax 0 1 0;double;haste 1;' = 6 / stand(0) = 1 / step(1) = 2 / dusk(1) = 0
            errand(0, 1) = 1 / keep(0) = 1 / keep(1) = 1 / rating(1) = 3
            'haste 3;' = 1 / one(0) = NONE / one(1) = 0 / one(2) = 0 / one(3) = NONE / one(4) = 0 / law(5) = 0 / count(4) = 0
            back(0) = STATE / back(1) = STATE / undo() = STATE / step(1) = STATE / home() = 0 / count(2) = 0 / count(3) = 0 / trace() = 11
            """);
        Rows.test(4, "Read anew by an empty text, too", """
            stand(0) = 1 / dusk(1) = 0 / errand(0, 1) = 1 / keep(0) = 0 / keep(1) = 0 / town() = 0
            one(0) = NONE / law(5) = 0 / count(4) = 0 / back(0) = STATE / back(1) = STATE
            """);
        Rows.test(4, "nothing is left of what was told ahead, once or twice, nor by a text with a FAULT", """
            'town 5 4;tax 4 9 0;double;haste 9;house 0 0;elbow 1 0;' = 6
            '' = 0 / law(0) = 1 / law(1) = 1 / law(2) = 2 / law(3) = 0 / law(4) = 0 / count(0) = 4 / count(1) = 3 / square(0) = 0 / square(1) = 0
            '' = 0 / law(0) = 1 / law(1) = 1 / law(2) = 2 / law(3) = 0 / law(4) = 0 / count(0) = 4 / count(1) = 3 / square(0) = 0 / square(1) = 0
            'town 2 1;tax 0 8 1;double;haste 8;elbow 0 0;house 1 0;!' = -64
            '' = 0 / law(0) = 1 / law(1) = 1 / law(2) = 2 / law(3) = 0 / law(4) = 0 / count(0) = 4 / count(1) = 3 / square(0) = 0 / square(1) = 0
            """);
        Rows.test(4, "an IMAGE kept behind it is there again", """
            stand(0) = 1 / keep(0) = 0 / town() = 0 / back(0) = STATE / keep(0) = 0 / back(0) = 0 / one(0) = NONE / back(1) = STATE
            """);
        Rows.test(4, "-10 less FAULT: nothing changes, THE TEXT stays, and goes on", """
            'town 2 2;house 1 1;elbow 1 0;tax 0 1 0;double;haste 1;' = 6 / stand(0) = 1 / step(1) = 2 / dusk(1) = 0
            errand(0, 1) = 1 / keep(0) = 1 / rating(0) = 2
            typed 'town 5 4;tax 4 9 2;haste 9;house 0 0' / town() = -46 / count(5) = 36 / town() = -46
            count(0) = 2 / count(1) = 2 / count(2) = 1 / count(3) = 1 / count(4) = 1 / square(3) = 1 / square(1) = 2 / square(4) = BAD
            law(0) = 0 / law(1) = 1 / law(2) = 0 / law(3) = 1 / law(4) = 1 / law(5) = 1 / one(0) = 1 / one(1) = 2 / trace() = 1
            step(3) = 3 / back(0) = 1 / undo() = 2 / type(59, 1) = 37 / town() = 4 / count(0) = 5 / square(0) = 1 / back(0) = STATE
            """);
    }

    // ---- refused

    private static void orderOfRefusals() {
        Rows.test(8, "the first of these: BAD ahead of STATE, STATE ahead of FULL", """
            step(4) = BAD / step(-1) = BAD / step(0) = STATE
            'town 2 1;' = 1 / stand(0) = 1
            30 x step(1) = 0 / step(3) = 0
            step(4) = BAD / step(0) = STATE / step(2) = STATE / step(3) = STATE / step(1) = FULL
            'town 3 1;house 2 0;' = 2 / stand(0) = 1
            29 x step(1) = 0 / step(3) = 0
            step(1) = 0 / step(1) = STATE / step(3) = 0 / step(1) = FULL
            """);
        Rows.test(2, "the first of these: BAD ahead of FULL", """
            blank 200 / type(32, 0) = BAD / type(32, 9) = BAD / type(32, -1) = BAD / type(32, 1) = FULL
            """);
        Rows.test(18, "the first of these: BAD ahead of FULL", """
            'house 1 1;' = 1 / errand(0, 1) = 1 / errand(0, 1) = 2 / errand(0, 1) = 3 / errand(0, 1) = 4 / errand(0, 1) = 5 / errand(0, 1) = 6
            errand(5, 0) = BAD / errand(0, 5) = BAD / errand(-1, 0) = BAD / errand(0, 12) = BAD / errand(0, 0) = FULL
            """);
        Rows.test(24, "the first of these: BAD ahead of STATE", """
            back(2) = BAD / back(-1) = BAD / back(0) = STATE / back(1) = STATE
            """);
        Rows.test(12, "BAD ahead of a STEP that can not be", """
            cost(0, 1) = -10 / cost(0, 15) = BAD / cost(0, 10) = BAD / cost(0, 91) = BAD / cost(12, 1) = BAD
            """);
        Rows.test(13, "BAD ahead of NONE", """
            'town 4 1;house 1 0;' = 2 / cheapest(0, 2, -3) = BAD / cheapest(0, 1, -2) = BAD / cheapest(0, 4, -2) = BAD
            quickest(0, 2, -1) = BAD / fewTurns(0, 4) = BAD / round(0, 6) = BAD / round(0, 20) = BAD / errand(0, 2) = 1 / help(2) = BAD
            """);
        Rows.test(15, "BAD ahead of -5", """
            line(0, 1, 1, 0) = -5 / line(0, 1, 1, 2) = BAD / line(0, 12, 1, 0) = BAD / cheapest(0, 0, 9) = -5 / cheapest(0, 12, 9) = BAD
            """);
        Rows.test(21, "BAD ahead of 0", """
            fits(0, 1, 0, 5) = 0 / fits(0, 1, 0, -1) = BAD / fits(0, 1, 9, 5) = BAD / fits(0, 12, 0, 5) = BAD
            """);
    }

    private static void manyCalls() {
        Rows.test(26, "512 calls: RATINGS", """
            511 x rating(5) = 0
            trace() = 51100511 / 512 calls in all
            """);
        Rows.test(8, "512 calls: STEPS, UNDONE again and again", """
            'town 2 1;haste 9;' = 2 / stand(0) = 1
            126 x step(1) = 9 / step(3) = 9 / undo() = 9 / undo() = 9
            one(1) = 0 / step(1) = 9 / 512 calls in all
            """);
        Rows.test(4, "512 calls: texts read anew and anew", """
            101 x 'town 5 4;' = 1 / square(19) = 0
            7 x count(0) = 5
            512 calls in all
            """);
        // In 5 by 4, from (2, 1) and back by 8 steps: of k along x and 8 - k along y, C(8, k) times the ways of each.
        Rows.test(21, "512 calls: the dearest ones", """
            'town 5 4;tax 4 1 0;' = 2 / errand(0, 19) = 1 / errand(19, 0) = 2 / errand(4, 15) = 3 / errand(15, 4) = 4 / errand(2, 17) = 5
            errand(5, 9) = 6
            83 x fits(7, 7, 8, 0) = 3924 / fits(7, 7, 8, 1) = 0 / round(0, 557077) = BAD / round(0, 557076) = 0 / help(1) = 0 / line(0, 19, 0, 0) = 7
            home() = 6 / cheapest(0, 19, -1) = 7 / fits(7, 7, 8, 0) = 3924 / 512 calls in all
            """);
        Rows.test(24, "512 calls: IMAGES kept and taken", """
            'town 2 1;haste 1;' = 2 / stand(0) = 1
            63 x step(1) = 1 / keep(0) = 1 / step(3) = 1 / keep(1) = 2 / back(0) = 1 / back(1) = 2 / undo() = 1 / undo() = 1
            one(1) = 0 / 511 calls in all
            step(1) = 1 / 512 calls in all
            """);
        Rows.test(13, "512 calls: each kind of question, by day and by night", """
            'town 5 4;tax 0 1 1;double;' = 3 / errand(0, 2) = 1
            49 x dusk(1) = 0 / cost(0, 22) = 6 / cheapest(0, 1, -2) = 2 / quickest(0, 1, 1) = NONE / help(1) = 4 / dusk(0) = 1 / cost(0, 22) = 3 / cheapest(0, 1, -2) = 1 / quickest(0, 1, 1) = 1 / help(1) = 2
            15 x law(5) = 0
            512 calls in all
            """);
    }
}
