/** Each promise of the document by itself: ordinary inputs, the edges that it names, and wrong inputs. */
public final class Promises {
    private static final int MIN = Integer.MIN_VALUE;
    private static final int MAX = Integer.MAX_VALUE;
    private static int wrong = 0;
    private static int asked = 0;

    public static void main(String[] args) {
        promise1NewObject();
        promise2Type();
        promise3Clear();
        promise4Town();
        promise4Faults();
        promise4NothingChanges();
        promise5Square();
        promise6Law();
        promise7Stand();
        promise8Step();
        promise8Fares();
        promise9Undo();
        promise10One();
        promise11Dusk();
        promise12Cost();
        promise13Cheapest();
        promise14Quickest();
        promise15Line();
        promise16FewTurns();
        promise17Round();
        promise18Errand();
        promise19Home();
        promise20Help();
        promise21Fits();
        promise22Rating();
        promise23Keep();
        promise24Back();
        promise25Count();
        promise26Trace();
        System.out.println(asked + " answers, " + wrong + " not as due");
        if (wrong != 0) {
            System.exit(1);
        }
    }

    private static void due(String what, long got, long want) {
        asked++;
        if (got != want) {
            wrong++;
            System.out.println(what + " answered " + got + ", due is " + want);
        }
    }

    private static int type(StraightTax x, String text) {
        int answer = 0;
        for (int i = 0; i < text.length(); i += 8) {
            int n = Math.min(8, text.length() - i);
            long v = 0;
            for (int k = 0; k < n; k++) {
                v = v << 8 | text.charAt(i + k);
            }
            answer = x.type(v, n);
        }
        return answer;
    }

    private static StraightTax told(String text) {
        StraightTax x = new StraightTax();
        type(x, text);
        int items = x.town();
        if (items < 0) {
            wrong++;
            System.out.println("'" + text + "' has a fault: " + items);
        }
        return x;
    }

    private static void dueTown(String text, int want) {
        StraightTax x = new StraightTax();
        type(x, text);
        due("town of '" + text + "'", x.town(), want);
        due("bytes left behind '" + text + "'", x.count(5), want < 0 ? text.length() : 0);
    }

    private static void promise1NewObject() {
        StraightTax x = new StraightTax();
        int[] laws = {1, 1, 2, 0, 0, 0};
        int[] counts = {4, 3, 0, 0, 0, 0};
        int[] ones = {-9, 0, 0, -9, 0};
        for (int i = 0; i < 6; i++) {
            due("new law " + i, x.law(i), laws[i]);
            due("new count " + i, x.count(i), counts[i]);
        }
        for (int i = 0; i < 5; i++) {
            due("new one " + i, x.one(i), ones[i]);
        }
        for (int c = 0; c < 12; c++) {
            due("new square " + c, x.square(c), 0);
        }
        due("new trace", x.trace(), 0);
        due("new back", x.back(0), -2);
        due("new back", x.back(1), -2);
        due("new home", x.home(), 0);
        due("new clear", x.clear(), 0);
        due("new undo", x.undo(), -2);
    }

    private static void promise2Type() {
        StraightTax x = new StraightTax();
        due("type 0 bytes", x.type(59, 0), -1);
        due("type 9 bytes", x.type(59, 9), -1);
        due("type -1 bytes", x.type(59, -1), -1);
        due("type MIN bytes", x.type(59, MIN), -1);
        due("type MAX bytes", x.type(59, MAX), -1);
        due("type 1", x.type(0x6464L, 1), 1);
        due("type 5", x.type(0xffffff6f75626c65L, 5), 6);
        due("type ;", x.type(-256L + ';', 1), 7);
        due("the lowest bytes, the highest first", x.town(), 1);
        due("doubled", x.law(3), 1);
        for (int i = 1; i <= 24; i++) {
            due("type 8", x.type(0x2020202020202020L, 8), 8 * i);
        }
        due("type 7", x.type(0, 7), 199);
        due("two more than 199", x.type(0, 2), -3);
        due("BAD ahead of FULL", x.type(0, 9), -1);
        due("one more than 199", x.type(0, 1), 200);
        due("one more than 200", x.type(0, 1), -3);
        due("bytes", x.count(5), 200);
        due("any byte may come", x.town(), -10 - 192);
    }

    private static void promise3Clear() {
        StraightTax x = new StraightTax();
        due("clear none", x.clear(), 0);
        type(x, "hou");
        due("clear 3", x.clear(), 3);
        due("clear again", x.clear(), 0);
        type(x, "double;");
        due("town behind clear", x.town(), 1);
        type(x, "haste 1;double;haste 22  ;");
        x.clear();
        type(x, "haste 1");
        due("what was cleared is not read", x.town(), -17);
        x.clear();
        type(x, "haste 1;doub");
        due("what was cleared is not read", x.town(), -18);
        x.clear();
        type(x, "haste 1;double;haste 2");
        due("what was cleared is not read", x.town(), -25);
    }

    private static void promise4Town() {
        dueTown("", 0);
        dueTown("   ", 0);
        dueTown("town 2 1;", 1);
        dueTown("town 5 4;", 1);
        dueTown("  town   5   4  ;  double  ;  ", 2);
        dueTown("town5 4;house0 0;tax0 1 2;", 3);
        dueTown("tax 0 1 0;haste 0;double;house 0 0;elbow 1 0;house 2 0;elbow 3 2;", 7);
        dueTown("tax 4 9 2;haste 9;", 2);

        StraightTax x = told("town 5 4;tax 3 7 0;double;haste 6;house 4 3;elbow 0 1;");
        x.stand(0);
        x.step(1);
        x.dusk(1);
        x.errand(0, 1);
        x.keep(0);
        x.keep(1);
        x.rating(0);
        type(x, "haste 2;");
        due("town anew", x.town(), 1);
        int[] laws = {1, 1, 2, 0, 2, 0};
        int[] counts = {4, 3, 0, 0, 0, 0};
        int[] ones = {-9, 0, 0, -9, 0};
        for (int i = 0; i < 6; i++) {
            due("anew law " + i, x.law(i), laws[i]);
            due("anew count " + i, x.count(i), counts[i]);
        }
        for (int i = 0; i < 5; i++) {
            due("anew one " + i, x.one(i), ones[i]);
        }
        for (int c = 0; c < 12; c++) {
            due("anew square " + c, x.square(c), 0);
        }
        due("images are gone", x.back(0), -2);
        due("images are gone", x.back(1), -2);
        due("one stands nowhere", x.step(1), -2);
        due("the trace stays", x.trace(), 1);
    }

    private static void promise4Faults() {
        dueTown("town", -14);
        dueTown("town ", -15);
        dueTown("town 3", -16);
        dueTown("town 3 3", -18);
        dueTown("town 3 3  ", -20);
        dueTown("town 1 3;", -15);
        dueTown("town 6 3;", -15);
        dueTown("town 2 0;", -17);
        dueTown("town 2 5;", -17);
        dueTown("town 3 3 3;", -19);
        dueTown("town 3;", -16);
        dueTown("town ;", -15);
        dueTown("town house;", -15);
        dueTown("town 3 3;town 3 3;", -19);
        dueTown("house 0 0;town 3 3;", -20);
        dueTown("town 2 1;house 2 0;", -25);
        dueTown("town 2 1;house 1 1;", -27);
        dueTown("house 4 0;", -16);
        dueTown("house 0 3;", -18);
        dueTown("house 1 1;house 1 1;", -28);
        dueTown("elbow 1 1;house 1 1;", -28);
        dueTown("house 1 1;elbow 1 1;", -28);
        dueTown("elbow 1 1;elbow 1 1;", -28);
        dueTown("tax 5 1 1;", -14);
        dueTown("tax 0 0 1;", -16);
        dueTown("tax 0 10 1;", -16);
        dueTown("tax 0 1 3;", -18);
        dueTown("tax 1 1 1;tax 1 1 1;", -20);
        dueTown("double;haste 1;double;", -25);
        dueTown("haste 1;haste 1;", -18);
        dueTown("haste 10;", -16);
        dueTown("haste 99;", -16);
        dueTown("haste 100;", -16);
        dueTown("haste 00;", -16);
        dueTown("haste 01;", -16);
        dueTown("haste 4294967297;", -16);
        dueTown("haste 18446744073709551617;", -16);
        dueTown("haste 1 100", -18);
        dueTown("double 5;", -17);
        dueTown("double", -16);
        dueTown("doubles;", -10);
        dueTown("doubl", -10);
        dueTown("Double;", -10);
        dueTown("fown 3 3;", -10);
        dueTown("housez 1 1;", -10);
        dueTown("azdouble;", -10);
        dueTown("doublE;", -10);
        dueTown("double;;", -17);
        dueTown("; double;", -10);
        dueTown("7;", -10);
        dueTown(" ,", -11);
        dueTown("double\n;", -16);
        dueTown("double" + (char) 0xA0 + ";", -16);
        dueTown("double" + (char) 0 + ";", -16);
        dueTown("haste -1;", -16);
        dueTown("haste 1x;", -17);
        dueTown("dou ble;", -10);
    }

    private static void promise4NothingChanges() {
        StraightTax x = told("town 3 2;house 1 1;elbow 2 0;tax 0 2 1;double;haste 1;");
        x.stand(0);
        x.step(1);
        x.dusk(1);
        x.errand(0, 2);
        x.keep(0);
        type(x, "town 5 4;house 0 0;elbow 1 0;tax 4 9 0;haste 9;oh");
        due("a fault", x.town(), -10 - 47);
        int[] laws = {0, 2, 1, 1, 1, 1};
        int[] counts = {3, 2, 1, 1, 1, 49};
        int[] ones = {1, 3, 1, 1, 1};
        for (int i = 0; i < 6; i++) {
            due("law " + i + " behind a fault", x.law(i), laws[i]);
            due("count " + i + " behind a fault", x.count(i), counts[i]);
        }
        for (int i = 0; i < 5; i++) {
            due("one " + i + " behind a fault", x.one(i), ones[i]);
        }
        int[] squares = {0, 0, 2, 0, 1, 0};
        for (int c = 0; c < 6; c++) {
            due("square " + c + " behind a fault", x.square(c), squares[c]);
        }
        due("square 6 behind a fault", x.square(6), -1);
        due("step behind a fault", x.step(1), 1 + 2 * 2 * 2);
        due("back behind a fault", x.back(0), 1);
        due("the same fault", x.town(), -10 - 47);
    }

    private static void promise5Square() {
        StraightTax x = told("town 5 4;house 4 3;elbow 0 3;house 2 1;");
        int[] squares = {0, 0, 0, 0, 0, 0, 0, 1, 0, 0, 0, 0, 0, 0, 0, 2, 0, 0, 0, 1};
        for (int c = 0; c < 20; c++) {
            due("square " + c, x.square(c), squares[c]);
        }
        due("square 20", x.square(20), -1);
        due("square -1", x.square(-1), -1);
        due("square MAX", x.square(MAX), -1);
        due("square MIN", x.square(MIN), -1);
        StraightTax small = told("town 2 1;");
        due("square 1", small.square(1), 0);
        due("square 2", small.square(2), -1);
        due("square 12 of a new town", new StraightTax().square(12), -1);
    }

    private static void promise6Law() {
        StraightTax x = told("tax 3 7 1;double;haste 5;");
        x.dusk(1);
        int[] laws = {3, 7, 1, 1, 5, 1};
        for (int i = 0; i < 6; i++) {
            due("law " + i, x.law(i), laws[i]);
        }
        due("law 6", x.law(6), -1);
        due("law -1", x.law(-1), -1);
        due("law MIN", x.law(MIN), -1);
    }

    private static void promise7Stand() {
        StraightTax x = told("town 3 2;house 1 1;elbow 2 1;tax 0 1 0;");
        due("stand 0", x.stand(0), 1);
        x.step(1);
        x.dusk(1);
        due("stand on a house", x.stand(4), -1);
        due("stand 6", x.stand(6), -1);
        due("stand -1", x.stand(-1), -1);
        due("stand MAX", x.stand(MAX), -1);
        due("nothing changed", x.one(0), 1);
        due("nothing changed", x.one(4), 1);
        due("stand on an elbow", x.stand(5), 1);
        due("square", x.one(0), 5);
        due("paid", x.one(1), 0);
        due("run", x.one(2), 0);
        due("direction", x.one(3), -9);
        due("steps", x.one(4), 0);
        due("no step to undo", x.undo(), -2);
        due("still night", x.law(5), 1);
        x.step(0);
        due("stands there again", x.stand(2), 1);
        due("steps", x.one(4), 0);
    }

    private static void promise8Step() {
        StraightTax x = told("town 3 2;house 1 1;");
        due("BAD ahead of STATE", x.step(4), -1);
        due("step -1", x.step(-1), -1);
        due("step MAX", x.step(MAX), -1);
        due("step MIN", x.step(MIN), -1);
        for (int d = 0; d < 4; d++) {
            due("stands nowhere", x.step(d), -2);
        }
        x.stand(0);
        due("out to n", x.step(0), -2);
        due("out to w", x.step(3), -2);
        due("s", x.step(2), 0);
        due("onto a house", x.step(1), -2);
        due("out to s", x.step(2), -2);
        due("n", x.step(0), 0);
        due("e", x.step(1), 0);
        due("onto a house", x.step(2), -2);
        due("e again", x.step(1), 1);
        due("out to e", x.step(1), -2);
        due("square", x.one(0), 2);
        due("steps", x.one(4), 4);

        StraightTax y = told("town 2 2;haste 3;");
        y.stand(0);
        for (int i = 0; i < 60; i++) {
            due("step " + i, y.step(i % 2 == 0 ? 1 : 3), 3);
        }
        due("60 steps", y.step(1), -3);
        due("BAD ahead of FULL", y.step(4), -1);
        due("STATE ahead of FULL", y.step(3), -2);
        due("paid", y.one(1), 180);
        due("steps", y.one(4), 60);
        due("run", y.one(2), 1);
        due("direction", y.one(3), 3);
        due("undo", y.undo(), 3);
        due("one more again", y.step(3), 3);
        due("60 steps again", y.step(1), -3);
        due("stand", y.stand(0), 1);
        due("step", y.step(1), 3);
    }

    private static void dueFares(String law, boolean night, int... fares) {
        StraightTax x = told("town 5 1;" + law);
        x.dusk(night ? 1 : 0);
        x.stand(0);
        int all = 0;
        for (int i = 0; i < 4; i++) {
            due("fare " + i + " by " + law + (night ? " at night" : ""), x.step(1), fares[i]);
            all += fares[i];
        }
        due("paid", x.one(1), all);
        due("turned right round", x.step(3), fares[0]);
    }

    private static void promise8Fares() {
        dueFares("", false, 0, 1, 4, 9);
        dueFares("", true, 0, 1, 4, 9);
        dueFares("double;", false, 0, 1, 4, 9);
        dueFares("double;", true, 0, 2, 8, 18);
        dueFares("tax 0 3 0;", false, 3, 3, 3, 3);
        dueFares("tax 0 3 1;", false, 3, 6, 9, 12);
        dueFares("tax 0 3 2;", false, 3, 12, 27, 48);
        dueFares("tax 2 5 0;haste 4;", false, 4, 4, 9, 9);
        dueFares("tax 2 5 1;haste 4;double;", true, 4, 4, 14, 24);
        dueFares("tax 2 5 2;haste 4;double;", true, 4, 4, 14, 44);
        dueFares("tax 4 9 2;haste 1;double;", true, 1, 1, 1, 1);
        dueFares("tax 3 9 2;", false, 0, 0, 0, 9);

        StraightTax x = told("town 5 1;tax 0 1 1;elbow 2 0;");
        x.stand(2);
        due("first of all, from an elbow", x.step(1), 1);
        due("second", x.step(1), 2);
        due("back", x.step(3), 1);
        due("to the elbow", x.step(3), 2);
        due("behind the elbow", x.step(3), 1);
        due("and on", x.step(3), 2);
    }

    private static void promise9Undo() {
        StraightTax x = told("town 5 2;tax 0 2 1;double;haste 1;");
        due("nowhere", x.undo(), -2);
        x.stand(0);
        due("no step", x.undo(), -2);
        due("e", x.step(1), 3);
        x.dusk(1);
        due("e by night", x.step(1), 9);
        due("s by night", x.step(2), 5);
        x.dusk(0);
        due("undo s", x.undo(), 5);
        due("square", x.one(0), 2);
        due("run", x.one(2), 2);
        due("direction", x.one(3), 1);
        due("paid", x.one(1), 12);
        due("still day", x.law(5), 0);
        due("goes on straight", x.step(1), 7);
        due("undo", x.undo(), 7);
        due("undo e", x.undo(), 9);
        due("undo e", x.undo(), 3);
        due("none left", x.undo(), -2);
        due("square", x.one(0), 0);
        due("paid", x.one(1), 0);
        due("run", x.one(2), 0);
    }

    private static void promise10One() {
        StraightTax x = told("town 3 3;tax 0 1 1;");
        x.stand(8);
        x.step(0);
        x.step(0);
        x.step(3);
        int[] ones = {1, 4, 1, 3, 3};
        for (int i = 0; i < 5; i++) {
            due("one " + i, x.one(i), ones[i]);
        }
        due("one 5", x.one(5), -1);
        due("one -1", x.one(-1), -1);
        due("one MAX", x.one(MAX), -1);
        x.undo();
        due("run of two", x.one(2), 2);
        due("direction n", x.one(3), 0);
    }

    private static void promise11Dusk() {
        StraightTax x = new StraightTax();
        due("to night", x.dusk(1), 0);
        due("night", x.law(5), 1);
        due("to night again", x.dusk(1), 1);
        due("BAD", x.dusk(2), -1);
        due("BAD", x.dusk(-1), -1);
        due("BAD", x.dusk(MIN), -1);
        due("still night", x.law(5), 1);
        due("to day", x.dusk(0), 1);
        due("day", x.law(5), 0);
        due("to day again", x.dusk(0), 0);
    }

    private static void promise12Cost() {
        StraightTax x = told("town 5 4;tax 0 1 1;house 2 2;elbow 3 0;double;");
        due("none", x.cost(0, 0), 0);
        due("four e, over an elbow", x.cost(0, 2222), 1 + 2 + 3 + 1);
        due("the first is the highest: e, n", x.cost(0, 21), -11);
        due("the first is the highest: n, e", x.cost(0, 12), -10);
        due("e e s s leads onto a house", x.cost(0, 2233), -13);
        due("s s e e leads onto a house", x.cost(0, 3322), -13);
        due("n leads out", x.cost(0, 1), -10);
        due("n n", x.cost(10, 11), 3);
        due("n n n", x.cost(15, 111), 6);
        due("nine n", x.cost(15, 111111111), -13);
        due("9 figures", x.cost(0, 242424242), 9);
        due("the 9th leads out", x.cost(0, 242424244), -18);
        due("10 figures", x.cost(0, 1111111111), -1);
        due("MAX", x.cost(0, MAX), -1);
        due("MIN", x.cost(0, MIN), -1);
        due("below 0", x.cost(0, -2), -1);
        due("figure 5", x.cost(0, 25), -1);
        due("figure 0", x.cost(0, 20), -1);
        due("figure 0 inside", x.cost(0, 202), -1);
        due("BAD ahead of a step that can not be", x.cost(0, 15), -1);
        due("from a house", x.cost(12, 0), -1);
        due("from 20", x.cost(20, 0), -1);
        due("from -1", x.cost(-1, 0), -1);
        x.stand(0);
        x.step(1);
        due("a new run", x.cost(1, 2), 1);
        x.dusk(1);
        due("by night", x.cost(0, 222), 12);
        due("nothing is changed", x.one(1), 1);
    }

    private static void promise13Cheapest() {
        StraightTax x = new StraightTax();
        int[] way = {1, 2, 1, 2, 1};
        due("pence", x.cheapest(0, 11, -2), 0);
        due("steps", x.cheapest(0, 11, -1), 5);
        for (int i = 0; i < 5; i++) {
            due("step " + i, x.cheapest(0, 11, i), way[i]);
        }
        due("step 5", x.cheapest(0, 11, 5), -5);
        due("step MAX", x.cheapest(0, 11, MAX), -5);
        due("i -3", x.cheapest(0, 11, -3), -1);
        due("i MIN", x.cheapest(0, 11, MIN), -1);
        due("from -1", x.cheapest(-1, 0, -2), -1);
        due("from 12", x.cheapest(12, 0, -2), -1);
        due("to -1", x.cheapest(0, -1, -2), -1);
        due("to 12", x.cheapest(0, 12, -2), -1);
        due("to itself", x.cheapest(3, 3, -2), 0);
        due("to itself", x.cheapest(3, 3, -1), 0);
        due("to itself", x.cheapest(3, 3, 0), -5);

        // Straight on costs 1 + 4: a detour is cheaper, and n is ahead of s.
        int[] detour = {1, 0, 1, 2, 1};
        due("steps", x.cheapest(4, 7, -1), 5);
        for (int i = 0; i < 5; i++) {
            due("step " + i, x.cheapest(4, 7, i), detour[i]);
        }

        // In one row there is no detour but to and fro: runs of two, with a step back between them.
        StraightTax row = told("town 5 1;tax 1 9 2;");
        due("pence", row.cheapest(0, 4, -2), 27);
        due("steps", row.cheapest(0, 4, -1), 8);
        due("pence straight on", row.cost(0, 2222), 126);
        int[] toAndFro = {1, 1, 3, 1, 1, 3, 1, 1};
        for (int i = 0; i < 8; i++) {
            due("to and fro, step " + i, row.cheapest(0, 4, i), toAndFro[i]);
        }
        due("its steps cost as much", row.cost(0, 22422422), 27);

        StraightTax walled = told("town 3 1;house 1 0;");
        for (int i = -2; i < 2; i++) {
            due("no way " + i, walled.cheapest(0, 2, i), -9);
        }
        due("BAD ahead of none", walled.cheapest(0, 2, -3), -1);
        due("from a house", walled.cheapest(1, 0, -2), -1);
        due("to a house", walled.cheapest(0, 1, -2), -1);

        StraightTax four = told("town 5 4;tax 4 1 0;");
        due("four straight on", four.cheapest(0, 4, -1), 4);
        due("four straight on", four.cheapest(4, 0, 3), 3);
        due("three straight on", four.cheapest(15, 0, -1), 3);
        due("three straight on", four.cheapest(15, 0, 2), 0);
        StraightTax elbow = told("town 5 1;elbow 2 0;tax 2 9 2;double;");
        due("over an elbow", elbow.cheapest(0, 4, -2), 0);
        due("over an elbow", elbow.cheapest(0, 4, -1), 4);
        StraightTax night = told("town 3 1;tax 0 1 0;double;");
        due("by day", night.cheapest(0, 2, -2), 2);
        night.dusk(1);
        due("by night", night.cheapest(0, 2, -2), 4);
    }

    private static void promise14Quickest() {
        StraightTax x = told("town 5 1;tax 1 9 2;");
        due("for 126", x.quickest(0, 4, 126), 4);
        due("for MAX", x.quickest(0, 4, MAX), 4);
        due("for 125", x.quickest(0, 4, 125), 6);
        due("for 54", x.quickest(0, 4, 54), 6);
        due("for 53", x.quickest(0, 4, 53), 8);
        due("for 27", x.quickest(0, 4, 27), 8);
        due("for 26", x.quickest(0, 4, 26), -9);
        due("for 0", x.quickest(0, 4, 0), -9);
        due("to itself for 0", x.quickest(2, 2, 0), 0);
        due("one step for 0", x.quickest(2, 3, 0), 1);
        due("for -1", x.quickest(2, 2, -1), -1);
        due("for MIN", x.quickest(2, 2, MIN), -1);
        due("from 5", x.quickest(5, 0, 9), -1);
        due("to -1", x.quickest(0, -1, 9), -1);
        StraightTax walled = told("town 4 1;house 1 0;haste 1;double;tax 0 1 0;");
        due("no way for MAX", walled.quickest(0, 2, MAX), -9);
        due("from a house", walled.quickest(1, 0, 9), -1);
        due("to a house", walled.quickest(0, 1, 9), -1);
        due("by day", walled.quickest(2, 3, 2), 1);
        walled.dusk(1);
        due("by night", walled.quickest(2, 3, 2), -9);
        due("by night", walled.quickest(2, 3, 3), 1);
    }

    private static void promise15Line() {
        StraightTax x = told("town 5 1;tax 1 9 2;");
        int[] steps = {4, 6, 8};
        int[] pence = {126, 54, 27};
        due("corners", x.line(0, 4, -1, 0), 3);
        due("corners", x.line(0, 4, -1, 1), 3);
        for (int i = 0; i < 3; i++) {
            due("steps of " + i, x.line(0, 4, i, 0), steps[i]);
            due("pence of " + i, x.line(0, 4, i, 1), pence[i]);
        }
        due("corner 3", x.line(0, 4, 3, 0), -5);
        due("corner 3", x.line(0, 4, 3, 1), -5);
        due("corner MAX", x.line(0, 4, MAX, 1), -5);
        due("i -2", x.line(0, 4, -2, 0), -1);
        due("i MIN", x.line(0, 4, MIN, 0), -1);
        due("what 2", x.line(0, 4, 0, 2), -1);
        due("what -1", x.line(0, 4, 0, -1), -1);
        due("from 5", x.line(5, 4, 0, 0), -1);
        due("to 5", x.line(0, 5, 0, 0), -1);
        due("from -1", x.line(-1, 4, 0, 0), -1);
        due("to itself", x.line(2, 2, -1, 0), 1);
        due("to itself", x.line(2, 2, 0, 0), 0);
        due("to itself", x.line(2, 2, 0, 1), 0);
        due("to itself", x.line(2, 2, 1, 1), -5);

        StraightTax winding = told("town 5 4;tax 1 9 2;haste 1;house 1 0;house 1 1;house 1 2;"
            + "house 3 1;house 3 2;house 3 3;");
        int[] windingSteps = {13, 15, 17, 19};
        int[] windingPence = {166, 141, 116, 91};
        due("corners", winding.line(0, 19, -1, 0), 4);
        for (int i = 0; i < 4; i++) {
            due("steps of " + i, winding.line(0, 19, i, 0), windingSteps[i]);
            due("pence of " + i, winding.line(0, 19, i, 1), windingPence[i]);
        }

        // Across a field one may turn at every step and pay nothing; along its side the quickest way is not free.
        StraightTax field = told("town 5 4;");
        due("across", field.line(0, 18, -1, 0), 1);
        due("across, steps", field.line(0, 18, 0, 0), 6);
        due("across, pence", field.line(0, 18, 0, 1), 0);
        int[] up = {3, 5};
        int[] upPence = {5, 0};
        due("up", field.line(15, 0, -1, 0), 2);
        due("down", field.line(4, 19, -1, 0), 2);
        for (int i = 0; i < 2; i++) {
            due("up, steps", field.line(15, 0, i, 0), up[i]);
            due("up, pence", field.line(15, 0, i, 1), upPence[i]);
            due("down, steps", field.line(4, 19, i, 0), up[i]);
            due("down, pence", field.line(4, 19, i, 1), upPence[i]);
        }

        StraightTax walled = told("town 3 1;house 1 0;double;tax 0 1 0;");
        due("no way", walled.line(0, 2, -1, 0), 0);
        due("no way", walled.line(0, 2, 0, 0), -5);
        due("from a house", walled.line(1, 0, -1, 0), -1);
        due("to a house", walled.line(0, 1, -1, 0), -1);
        StraightTax night = told("town 2 1;tax 0 1 0;double;");
        due("by day", night.line(0, 1, 0, 1), 1);
        night.dusk(1);
        due("by night", night.line(0, 1, 0, 1), 2);
    }

    private static void promise16FewTurns() {
        StraightTax x = told("town 5 4;house 1 0;house 1 1;house 1 2;house 3 1;house 3 2;house 3 3;elbow 0 2;elbow 0 3;");
        due("down", x.fewTurns(0, 15), 0);
        due("down and right", x.fewTurns(0, 17), 1);
        due("and up", x.fewTurns(0, 2), 2);
        due("and right", x.fewTurns(0, 4), 3);
        due("and down", x.fewTurns(0, 19), 4);
        due("the same back", x.fewTurns(19, 0), 4);
        due("to itself", x.fewTurns(7, 7), 0);
        due("from a house", x.fewTurns(1, 0), -1);
        due("to a house", x.fewTurns(0, 1), -1);
        due("from 20", x.fewTurns(20, 0), -1);
        due("to -1", x.fewTurns(0, -1), -1);
        due("to MIN", x.fewTurns(0, MIN), -1);
        StraightTax walled = told("town 3 1;house 1 0;");
        due("no way", walled.fewTurns(0, 2), -9);
        due("a row", told("town 5 1;").fewTurns(4, 0), 0);
    }

    private static void promise17Round() {
        StraightTax x = told("town 5 1;tax 0 1 1;");
        due("no places", x.round(2, 0), 0);
        due("itself", x.round(2, 4), 0);
        due("one", x.round(2, 8), 2);
        due("two, one on each side: 1 to it, 1 + 2 to the other, 1 back", x.round(2, 2 + 8), 5);
        due("two on one side: 1, 1 and 1 + 2 back", x.round(0, 2 + 4), 5);
        due("four: by 2 and 4, back by 3 and 1", x.round(0, 2 + 4 + 8 + 16), 3 + 3 + 1 + 3 + 1);
        due("five", x.round(0, 31), -1);
        due("bit 5", x.round(0, 32), -1);
        due("bit 30", x.round(0, 1 << 30), -1);
        due("bit 31", x.round(0, MIN), -1);
        due("-1", x.round(0, -1), -1);
        due("from 5", x.round(5, 0), -1);
        due("from -1", x.round(-1, 0), -1);
        StraightTax walled = told("town 4 1;house 1 0;tax 0 2 0;double;");
        due("no way", walled.round(0, 4), -9);
        due("a house", walled.round(0, 2), -1);
        due("from a house", walled.round(1, 0), -1);
        due("BAD ahead of none", walled.round(0, 2 + 4), -1);
        due("by day", walled.round(2, 8), 4);
        walled.dusk(1);
        due("by night", walled.round(2, 8), 8);
        StraightTax corner = told("town 2 2;house 0 0;");
        due("a house at 0", corner.round(1, 1), -1);
        due("a house at 0 and more", corner.round(1, 1 + 4), -1);
        due("place 0 alone", told("town 2 2;tax 0 1 0;").round(1, 1), 2);
        due("bit 19", told("town 5 4;tax 0 1 0;").round(18, 1 << 19), 2);
        due("bit 12 of a new town", new StraightTax().round(0, 1 << 12), -1);
    }

    private static void promise18Errand() {
        StraightTax x = told("town 3 1;house 1 0;");
        for (int i = 1; i <= 6; i++) {
            due("BAD", x.errand(0, 1), -1);
            due("errand " + i, x.errand(i % 2 * 2, 0), i);
        }
        due("BAD ahead of FULL", x.errand(1, 0), -1);
        due("BAD ahead of FULL", x.errand(0, 3), -1);
        due("FULL", x.errand(0, 2), -3);
        due("errands", x.count(4), 6);
        StraightTax y = new StraightTax();
        due("from -1", y.errand(-1, 0), -1);
        due("to MAX", y.errand(0, MAX), -1);
        due("errands", y.count(4), 0);
    }

    private static void promise19Home() {
        StraightTax x = new StraightTax();
        due("none", x.home(), 0);
        x.errand(0, 3);
        x.errand(3, 0);
        due("two", x.home(), 2);
        due("errands", x.count(4), 0);
        due("none", x.home(), 0);
        due("first again", x.errand(0, 1), 1);
    }

    private static void promise20Help() {
        StraightTax x = told("town 5 1;tax 1 1 2;");
        due("no errands", x.help(0), 0);
        due("no errands", x.help(1), 0);
        due("what 2", x.help(2), -1);
        due("what -1", x.help(-1), -1);
        due("what MIN", x.help(MIN), -1);
        x.errand(0, 4);
        // 0 > 4 costs 3 by turning to and fro; with an elbow at 1, 2 or 3 it costs 2, and 1 is the least of these.
        due("where", x.help(0), 1);
        due("pence", x.help(1), 2);
        due("no elbow was put", x.count(3), 0);
        due("the way as it was", x.cheapest(0, 4, -2), 3);

        StraightTax y = told("town 5 1;tax 0 1 2;");
        y.errand(0, 2);
        due("where", y.help(0), 1);
        due("pence", y.help(1), 2);
        y.errand(4, 2);
        y.errand(2, 4);
        due("where, for two of three", y.help(0), 3);
        due("pence", y.help(1), y.cheapest(0, 2, -2) + 4);

        StraightTax full = told("town 2 1;house 0 0;elbow 1 0;");
        due("no such square", full.help(0), -9);
        due("no such square", full.help(1), -9);
        due("BAD ahead of none", full.help(3), -1);
        StraightTax walled = told("town 3 1;house 1 0;");
        walled.errand(0, 0);
        due("a way", walled.help(1), 0);
        walled.errand(0, 2);
        due("no way", walled.help(0), -9);
        due("no way", walled.help(1), -9);
        StraightTax taken = told("town 3 1;elbow 0 0;house 1 0;");
        due("neither house nor elbow", taken.help(0), 2);
        StraightTax night = told("town 2 1;tax 0 1 0;double;");
        night.errand(0, 1);
        night.dusk(1);
        due("by night", night.help(1), 2);
    }

    private static void promise21Fits() {
        StraightTax x = told("town 2 2;tax 0 1 0;");
        due("none", x.fits(0, 0, 0, 0), 1);
        due("none, for 1", x.fits(0, 0, 0, 1), 0);
        due("none, to another", x.fits(0, 1, 0, 0), 0);
        due("two steps", x.fits(0, 3, 2, 2), 2);
        due("there and back", x.fits(0, 0, 2, 2), 2);
        due("8 steps", x.fits(0, 0, 8, 8), 128);
        due("8 steps for 7", x.fits(0, 0, 8, 7), 0);
        due("9 steps", x.fits(0, 0, 9, 9), -1);
        due("-1 steps", x.fits(0, 0, -1, 0), -1);
        due("MAX steps", x.fits(0, 0, MAX, 0), -1);
        due("-1 pence", x.fits(0, 0, 0, -1), -1);
        due("MIN pence", x.fits(0, 0, 0, MIN), -1);
        due("MAX pence", x.fits(0, 0, 8, MAX), 0);
        due("from 4", x.fits(4, 0, 0, 0), -1);
        due("to -1", x.fits(0, -1, 0, 0), -1);
        // Of the 6 ways over 2 and 2 steps two turn once (1 + 1 pence), the others turn more and go straight once or never.
        StraightTax y = told("town 3 3;");
        due("for 2", y.fits(0, 8, 4, 2), 2);
        due("for 1", y.fits(0, 8, 4, 1), 2);
        due("for 0", y.fits(0, 8, 4, 0), 2);
        StraightTax elbow = told("town 3 3;elbow 1 1;house 2 0;double;");
        due("to a house", elbow.fits(0, 2, 2, 1), -1);
        due("from a house", elbow.fits(2, 0, 2, 1), -1);
        due("over an elbow", elbow.fits(3, 5, 2, 0), 1);
        due("past none", elbow.fits(6, 8, 2, 1), 1);
        elbow.dusk(1);
        due("by night", elbow.fits(6, 8, 2, 1), 0);
        due("by night", elbow.fits(6, 8, 2, 2), 1);
    }

    private static void promise22Rating() {
        StraightTax x = told("town 5 4;tax 0 2 1;");
        for (int kind = 0; kind < 6; kind++) {
            due("at first", x.rating(kind), 0);
        }
        x.stand(7);
        x.step(1);
        x.step(1);
        x.errand(0, 1);
        x.errand(0, 1);
        x.errand(0, 1);
        int[] ratings = {6, 8, 4, 16, 13, 9};
        for (int kind = 0; kind < 6; kind++) {
            due("rating " + kind, x.rating(kind), ratings[kind]);
        }
        long before = x.trace();
        due("rating 6", x.rating(6), -1000000);
        due("rating -1", x.rating(-1), -1000000);
        due("rating MIN", x.rating(MIN), -1000000);
        due("rating MAX", x.rating(MAX), -1000000);
        due("BAD leaves no trace", x.trace(), before);
        StraightTax free = told("tax 4 1 2;");
        free.stand(0);
        free.step(1);
        free.step(1);
        due("below 0", free.rating(2), -2);
        due("square and run", free.rating(4), 0);
    }

    private static void promise23Keep() {
        StraightTax x = told("town 3 3;tax 0 1 0;");
        due("of one who stands nowhere", x.keep(0), 0);
        x.stand(0);
        x.step(1);
        x.step(1);
        due("two steps", x.keep(1), 2);
        due("image 2", x.keep(2), -1);
        due("image -1", x.keep(-1), -1);
        due("image MAX", x.keep(MAX), -1);
        x.step(2);
        due("kept anew", x.keep(1), 3);
        x.undo();
        x.undo();
        due("back to three", x.back(1), 3);
        due("square", x.one(0), 5);
        due("back to nowhere", x.back(0), 0);
        due("square", x.one(0), -9);
        due("nowhere to step", x.step(1), -2);
    }

    private static void promise24Back() {
        StraightTax x = told("town 5 1;tax 0 1 1;double;");
        due("none was kept", x.back(0), -2);
        due("BAD ahead of STATE", x.back(2), -1);
        due("image -1", x.back(-1), -1);
        due("image MIN", x.back(MIN), -1);
        x.stand(0);
        x.step(1);
        x.dusk(1);
        x.step(1);
        x.keep(0);
        due("the other one", x.back(1), -2);
        x.errand(0, 1);
        x.dusk(0);
        x.stand(4);
        x.step(3);
        type(x, "dou");
        due("back", x.back(0), 2);
        int[] ones = {2, 5, 2, 1, 2};
        for (int i = 0; i < 5; i++) {
            due("one " + i, x.one(i), ones[i]);
        }
        due("night again", x.law(5), 1);
        due("errands stay", x.count(4), 1);
        due("the text stays", x.count(5), 3);
        due("goes on straight", x.step(1), 6);
        due("undo", x.undo(), 6);
        due("undo what was paid by night", x.undo(), 4);
        due("undo what was paid by day", x.undo(), 1);
        due("none left", x.undo(), -2);
        due("back once more", x.back(0), 2);
        due("paid", x.one(1), 5);
        due("undo", x.undo(), 4);
    }

    private static void promise25Count() {
        StraightTax x = told("town 5 2;house 0 0;house 1 1;elbow 2 1;");
        x.errand(1, 2);
        type(x, "tax");
        int[] counts = {5, 2, 2, 1, 1, 3};
        for (int i = 0; i < 6; i++) {
            due("count " + i, x.count(i), counts[i]);
        }
        due("count 6", x.count(6), -1);
        due("count -1", x.count(-1), -1);
        due("count MAX", x.count(MAX), -1);
    }

    private static void promise26Trace() {
        int[] traces = {1, 11, 101, 1011, 10101, 100001};
        StraightTax x = new StraightTax();
        long all = 0;
        for (int kind = 0; kind < 6; kind++) {
            x.rating(kind);
            all += traces[kind];
            due("trace behind rating " + kind, x.trace(), all);
        }
        x.stand(0);
        x.keep(0);
        x.back(0);
        due("trace behind other calls", x.trace(), all);
        for (int i = 0; i < 400; i++) {
            x.rating(5);
        }
        due("trace of many", x.trace(), all + 400L * 100001);
    }
}
