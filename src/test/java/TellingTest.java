/** Promises 1 to 4: a new object, type, clear, net. */
public final class TellingTest {
    public static void main(String[] args) {
        newObject();
        letters();
        clearing();
        itemsAreRead();
        faults();
        aFaultChangesNothing();
        allIsToldAnew();
        Check.end();
    }

    private static void newObject() {
        TrunkRadio x = new TrunkRadio();
        int[] counts = {0, 4, 8, 0, 0, 0, 0, 0, 0, 0, 0};
        for (int what = 0; what < counts.length; what++) {
            Check.due("new count(" + what + ")", x.count(what), counts[what]);
        }
        for (int site = 0; site < 2; site++) {
            Check.due("new CHANNELS", x.site(site, 0), 2);
            Check.due("new free CHANNELS", x.site(site, 1), 2);
            Check.due("new CONTROL", x.site(site, 2), 1);
            Check.due("new LOST", x.site(site, 3), 0);
        }
        Check.due("no RADIO", x.radio(0, 0), TrunkRadio.BAD);
        Check.due("no press", x.presses(0, 0), TrunkRadio.BAD);
        Check.due("no IMAGE", x.back(0), TrunkRadio.STATE);
        Check.due("no act", x.undo(), TrunkRadio.STATE);
        Check.due("no letter", x.clear(), 0);
    }

    private static void letters() {
        TrunkRadio x = new TrunkRadio();
        Check.due("type(-1)", x.type(-1), TrunkRadio.BAD);
        Check.due("type(256)", x.type(256), TrunkRadio.BAD);
        Check.due("type(0)", x.type(0), 1);
        Check.due("type(255)", x.type(255), 2);
        for (int length = 3; length <= 80; length++) {
            Check.due("letter " + length, x.type(' '), length);
        }
        Check.due("letter 81", x.type(' '), TrunkRadio.FULL);
        Check.due("a wrong letter 81", x.type(300), TrunkRadio.BAD);
        Check.due("count(9)", x.count(9), 80);
    }

    private static void clearing() {
        TrunkRadio x = new TrunkRadio();
        Check.type(x, "a5;");
        Check.due("clear()", x.clear(), 3);
        Check.due("clear() again", x.clear(), 0);
        Check.due("count(9)", x.count(9), 0);
        Check.due("net() of nothing", x.net(), 0);
        Check.due("AIR as at first", x.count(1), 4);
        Check.due("type behind clear()", x.type('a'), 1);
    }

    private static void itemsAreRead() {
        TrunkRadio x = new TrunkRadio();
        Check.due("net", Check.net(x, " r 1 5 3 ;w20;c3 1;r0 0 0;a 9;"), 5);
        Check.due("the text is empty", x.count(9), 0);
        Check.due("RADIOS", x.count(0), 2);
        Check.due("AIR", x.count(1), 9);
        Check.due("PATIENCE", x.count(2), 20);
        Check.due("CHANNELS of 0", x.site(0, 0), 3);
        Check.due("CHANNELS of 1", x.site(1, 0), 1);
        int[][] due = {{1, 5, 3}, {0, 0, 0}};
        for (int radio = 0; radio < 2; radio++) {
            for (int what = 0; what < 3; what++) {
                Check.due("radio(" + radio + ", " + what + ")", x.radio(radio, what), due[radio][what]);
            }
        }
        Check.due("seven RADIOS", Check.net(x, "r0 0 0;".repeat(7)), 7);
        Check.due("blanks alone", Check.net(x, "   "), 0);
        Check.due("a text of 80", Check.net(x, "r1 1 1;".repeat(7) + " ".repeat(20) + "c1 1;a1;w1;"), 10);
        Check.due("the least", x.count(1) + 10 * x.count(2) + 100 * x.site(0, 0) + 1000 * x.site(1, 0), 1111);
    }

    private static void faults() {
        TrunkRadio x = new TrunkRadio();
        Object[][] texts = {
            {"x", 0}, {";", 0}, {"5;", 0}, {" x", 1}, {"C1 1;", 0}, {"a4;;", 3}, {"a4;1", 3},
            {"c0 1;", 1}, {"c1 0;", 3}, {"c4 1;", 1}, {"c1 4;", 3}, {"c1;", 2}, {"c11;", 1}, {"c1 1 1;", 5}, {"cc", 1},
            {"a0;", 1}, {"a10;", 1}, {"a;", 1}, {"a4 4;", 3}, {"aw", 1}, {"w0;", 1}, {"w21;", 1}, {"w 99;", 2},
            {"r2 0 0;", 1}, {"r0 6 0;", 3}, {"r0 0 4;", 5}, {"r0 0;", 4}, {"r;", 1}, {"r0 0 0 0;", 7}, {"r0 0 0 r", 7},
            {"a100;", 1}, {"a4294967300;", 1}, {"a" + "1".repeat(79), 1}, {"a 01;", 2}, {"a00;", 1}, {"w021;", 1},
            {"r00 0 0;", 1}, {"r0 0 00;", 5},
            {"c1 1;c1 1;", 5}, {"a1;a1;", 3}, {"w1;w1;", 3}, {"w1;w", 3}, {"a1;c1 1;a", 8},
            {"r0 0 0;".repeat(7) + "r", 49}, {"r0 0 0;".repeat(7) + " r0 0 0;", 50},
            {"c 1 ; x", 4}, {"x c 1 ;", 0}, {"a4x;", 2}, {"a4\t;", 2}, {"\u00ff", 0},
            {"c", 1}, {"c1", 2}, {"c1 1", 4}, {"c1 1 ", 5}, {"a", 1}, {"a5", 2}, {"w 7   ", 6}, {"r0 0 0;r", 8},
            {"r0 0 0;r0", 9}, {"r0 0", 4}, {"r0 0 0", 6}, {" ".repeat(79) + "c", 80},
        };
        for (Object[] row : texts) {
            String text = (String) row[0];
            Check.due("net of '" + text + "'", Check.net(x, text), -10 - (int) row[1]);
        }
        x.clear();
        x.type('a');
        x.type('4');
        x.type(0);
        Check.due("net with a letter 0", x.net(), -12);
        x.clear();
        x.type(1);
        Check.due("net of a letter 1", x.net(), -10);
    }

    private static void aFaultChangesNothing() {
        TrunkRadio x = Check.told("c1 3;a5;w6;r1 2 3;");
        x.presses(0, 1);
        x.ticks(2);
        x.sees(3, 1);
        x.keep(1);
        Check.type(x, "c2 2;a1;r0 0 0;r0 0 0;w21;");
        String before = Check.all(x);
        Check.due("net", x.net(), -33);
        Check.isTrue("nothing changed", before.equals(Check.all(x)));
        Check.due("net again", x.net(), -33);
        Check.due("the IMAGE is kept", x.back(1), 2);
        Check.due("clear()", x.clear(), 26);
    }

    private static void allIsToldAnew() {
        TrunkRadio x = Check.told("c1 1;a1;w1;r0 0 3;r0 1 0;");
        x.presses(0, 1);
        x.controls(1, 0);
        x.moves(1);
        x.ticks(5);
        x.sees(1, 1);
        x.keep(0);
        x.keep(1);
        Check.due("BEGAN ahead", x.count(4), 1);
        Check.due("CUT ahead", x.count(5), 1);
        Check.due("net", Check.net(x, "r0 2 2;r0 4 1;"), 2);
        int[] counts = {2, 4, 8, 0, 0, 0, 0, 0, 0, 0, 0};
        for (int what = 0; what < counts.length; what++) {
            Check.due("count(" + what + ") anew", x.count(what), counts[what]);
        }
        for (int site = 0; site < 2; site++) {
            Check.due("CHANNELS anew", x.site(site, 0), 2);
            Check.due("CONTROL anew", x.site(site, 2), 1);
            Check.due("no IMAGE", x.back(site), TrunkRadio.STATE);
        }
        Check.due("SITE as told", x.radio(1, 0), 0);
        Check.due("undo()", x.undo(), TrunkRadio.STATE);
        x.controls(0, 0);
        x.controls(1, 0);
        x.presses(0, 1);
        Check.due("net with one who is SENT", Check.net(x, "r0 2 2;"), 1);
        Check.dueRadio(x, 0, 0, 0, 0, 0);
        Check.due("CONTROL of 0", x.site(0, 2), 1);
        Check.due("CONTROL of 1", x.site(1, 2), 1);
        Check.due("net() of nothing", x.net(), 0);
        Check.due("no RADIOS then", x.count(0), 0);
        TrunkRadio y = Check.told("c1 1;a9;w1;r0 0 0;r0 1 0;");
        y.presses(0, 0);
        y.ticks(1);
        y.presses(1, 0);
        y.ticks(2);
        Check.due("GIVEN UP", y.count(6), 1);
        y.net();
        Check.due("GIVEN UP anew", y.count(6), 0);
    }
}
