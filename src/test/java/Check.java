/** What the tests share: answers that are due, and a net told in one go. */
final class Check {
    private static int right;
    private static int wrong;

    private Check() {
    }

    static void due(String call, long got, long want) {
        if (got == want) {
            right++;
            return;
        }
        wrong++;
        if (wrong <= 50) {
            System.out.println(call + " answered " + got + ", due is " + want);
        }
    }

    static void isTrue(String what, boolean is) {
        due(what, is ? 1 : 0, 1);
    }

    static void end() {
        System.out.println(right + " answers as due, " + wrong + " not");
        if (wrong > 0 || right == 0) {
            System.exit(1);
        }
    }

    static void type(TrunkRadio x, String text) {
        for (int i = 0; i < text.length(); i++) {
            x.type(text.charAt(i));
        }
    }

    /** Empties THE TEXT, types another, and reads it. */
    static int net(TrunkRadio x, String text) {
        x.clear();
        type(x, text);
        return x.net();
    }

    static TrunkRadio told(String text) {
        TrunkRadio x = new TrunkRadio();
        isTrue("net of " + text, net(x, text) >= 0);
        return x;
    }

    /** All that the plain questions answer, in one text. */
    static String all(TrunkRadio x) {
        StringBuilder all = new StringBuilder();
        for (int what = 0; what <= 10; what++) {
            all.append(x.count(what)).append(' ');
        }
        for (int site = 0; site < 2; site++) {
            for (int what = 0; what < 4; what++) {
                all.append(x.site(site, what)).append(' ');
            }
        }
        for (int radio = 0; radio < x.count(0); radio++) {
            for (int what = 0; what < 7; what++) {
                all.append(x.radio(radio, what)).append(' ');
            }
        }
        return all.toString();
    }

    /** How a RADIO is: its state, TICKS, whether URGENT, its CHANNELS. */
    static void dueRadio(TrunkRadio x, int radio, int how, int ticks, int urgent, int sites) {
        due("radio(" + radio + ", 3)", x.radio(radio, 3), how);
        due("radio(" + radio + ", 4)", x.radio(radio, 4), ticks);
        due("radio(" + radio + ", 5)", x.radio(radio, 5), urgent);
        due("radio(" + radio + ", 6)", x.radio(radio, 6), sites);
    }
}
