import java.util.function.IntBinaryOperator;
import java.util.function.Supplier;

/**
 * Each number of each call at its bounds and just beyond, each BAD, STATE and FULL; that a refused call changes nothing;
 * and, where two refusals could be due, that the first of BAD, STATE, FULL is answered.
 */
public final class CallBoundsTest {
    private static final int BAD = TrunkRadio.BAD, STATE = TrunkRadio.STATE, FULL = TrunkRadio.FULL,
        NONE = TrunkRadio.NONE;

    /** A call with one number of it left open. */
    interface Open {
        int with(TrunkRadio x, int n);
    }

    public static void main(String[] args) {
        theRecipesAreAsTold();
        type();
        clearAndForgetAreNeverRefused();
        net();
        readAnew();
        ticks();
        presses();
        releases();
        controls();
        moves();
        undo();
        radio();
        site();
        talker();
        queue();
        soon();
        within();
        wave();
        odds();
        sees();
        ranksAndLook();
        keep();
        back();
        count();
        Check.end();
    }

    /** Below least and above most the number is BAD, in all states, and nothing changes. */
    private static void badOutside(String name, int least, int most, Open call) {
        int[] beyond = {least - 1, most + 1, Integer.MIN_VALUE, Integer.MAX_VALUE};
        for (int n : beyond) {
            Deep.refused(name + " with " + n + ", busy", Made::busy, x -> call.with(x, n), BAD);
            Deep.refused(name + " with " + n + ", brim", Made::brim, x -> call.with(x, n), BAD);
            Deep.refused(name + " with " + n + ", fresh", Made::fresh, x -> call.with(x, n), BAD);
        }
    }

    /** A RADIO that there is not, in an object without any, with one, three and seven. */
    private static void badRadio(String name, Open call) {
        int[] most = {0, 1, 3, 7};
        for (int i = 0; i < 4; i++) {
            Supplier<TrunkRadio> made = byRadios(i);
            Check.due("RADIOS", made.get().count(0), most[i]);
            int[] beyond = {-1, most[i], 7, 8, Integer.MIN_VALUE, Integer.MAX_VALUE};
            for (int n : beyond) {
                Deep.refused(name + " of RADIO " + n + " of " + most[i], made, x -> call.with(x, n), BAD);
            }
            if (most[i] > 0) {
                int last = most[i] - 1;
                Check.isTrue(name + " of RADIO 0", call.with(made.get(), 0) != BAD);
                Check.isTrue(name + " of RADIO " + last, call.with(made.get(), last) != BAD);
            }
        }
    }

    private static Supplier<TrunkRadio> byRadios(int i) {
        switch (i) {
            case 0: return Made::fresh;
            case 1: return Made::one;
            case 2: return Made::brim;
            default: return Made::busy;
        }
    }

    private static void theRecipesAreAsTold() {
        TrunkRadio busy = Made.busy();
        int[] how = {4, 3, 2, 2, 5, 1, 0};
        for (int radio = 0; radio < 7; radio++) {
            Check.due("busy radio(" + radio + ", 3)", busy.radio(radio, 3), how[radio]);
        }
        Check.due("busy CONTROL", busy.site(1, 2), 0);
        Check.due("busy acts", busy.count(10), 12);
        Check.due("busy SEEN", busy.count(8), 2);
        TrunkRadio brim = Made.brim();
        Check.due("brim TICK", brim.count(3), 997);
        Check.due("brim letters", brim.count(9), 80);
        Check.due("brim SEEN", brim.count(8), 6);
        Check.due("brim acts", brim.count(10), 12);
        Check.due("brim LOST", brim.site(1, 3), 99);
        Check.due("brim IMAGE 0", brim.back(0), 984);
        Check.due("brim IMAGE 1", brim.back(1), 0);
        // A look that shows nothing would prove nothing.
        Check.isTrue("traces differ", !Deep.trace(Made::busy).equals(Deep.trace(() -> {
            TrunkRadio x = Made.busy();
            x.keep(1);
            return x;
        })));
        Check.isTrue("traces show what was SEEN", !Deep.trace(Made::busy).equals(Deep.trace(() -> {
            TrunkRadio x = Made.busy();
            x.forget();
            x.sees(9, 0);
            x.sees(2, 0);
            return x;
        })));
        Check.isTrue("traces show acts that are known", !Deep.trace(Made::busy).equals(Deep.trace(() -> {
            TrunkRadio x = Made.busy();
            x.moves(6);
            x.moves(6);
            return x;
        })));
        Check.isTrue("traces show THE TEXT", !Deep.trace(Made::busy).equals(Deep.trace(() -> {
            TrunkRadio x = Made.busy();
            x.clear();
            Check.type(x, "c3 3;a3;r0 1 2;r1 5 1;");
            return x;
        })));
    }

    // "A letter (0 .. 255) comes to THE TEXT: how many it has. BAD; FULL."
    private static void type() {
        badOutside("type", 0, 255, TrunkRadio::type);
        Check.due("type(0)", Made.busy().type(0), 23);
        Check.due("type(255)", Made.busy().type(255), 23);
        Check.due("the first", Made.fresh().type(0), 1);
        TrunkRadio x = new TrunkRadio();
        for (int length = 1; length <= 80; length++) {
            Check.due("letter " + length, x.type(length % 2 == 0 ? ' ' : 255), length);
            Check.due("count(9)", x.count(9), length);
        }
        Check.due("letter 81", x.type(' '), FULL);
        Check.due("letter 81 again", x.type('a'), FULL);
        Check.due("count(9)", x.count(9), 80);
        for (int letter : new int[] {0, ' ', ';', 'a', 255}) {
            Deep.refused("type(" + letter + ") at 80", Made::brim, y -> y.type(letter), FULL);
        }
        // BAD comes ahead of FULL.
        Deep.refused("type(256) at 80", Made::brim, y -> y.type(256), BAD);
        Deep.refused("type(-1) at 80", Made::brim, y -> y.type(-1), BAD);
        x.clear();
        Check.due("room again", x.type('a'), 1);
    }

    // "THE TEXT is empty: how many letters it had." "Nothing is SEEN: how much was."
    private static void clearAndForgetAreNeverRefused() {
        Check.due("clear() of none", Made.fresh().clear(), 0);
        Check.due("clear() of some", Made.busy().clear(), 22);
        TrunkRadio x = Made.brim();
        Check.due("clear() of 80", x.clear(), 80);
        Check.due("clear() again", x.clear(), 0);
        Check.due("clear() is no act", x.count(10), 12);
        Check.due("forget() of none", Made.fresh().forget(), 0);
        Check.due("forget() of some", Made.busy().forget(), 2);
        Check.due("forget() of 6", x.forget(), 6);
        Check.due("forget() again", x.forget(), 0);
        Check.due("forget() is no act", x.count(10), 12);
        Check.due("TICK stays", x.count(3), 997);
    }

    // "-10 less FAULT: nothing changes."
    private static void net() {
        Supplier<TrunkRadio> wrong = () -> {
            TrunkRadio x = Made.busy();
            x.type('x');
            return x;
        };
        Deep.refused("net() with a FAULT at 22", wrong, TrunkRadio::net, -32);
        Supplier<TrunkRadio> early = () -> {
            TrunkRadio x = Made.busy();
            x.type('w');
            x.type('3');
            return x;
        };
        Deep.refused("net() that ends too early", early, TrunkRadio::net, -34);
        Supplier<TrunkRadio> first = () -> {
            TrunkRadio x = Made.brim();
            x.clear();
            Check.type(x, ";".repeat(80));
            return x;
        };
        Deep.refused("net() with a FAULT at 0", first, TrunkRadio::net, -10);
        Supplier<TrunkRadio> last = () -> {
            TrunkRadio x = Made.brim();
            x.clear();
            Check.type(x, " ".repeat(79) + "a");
            return x;
        };
        Deep.refused("net() with a FAULT at 80", last, TrunkRadio::net, -90);
        Supplier<TrunkRadio> lastLetter = () -> {
            TrunkRadio x = Made.brim();
            x.clear();
            Check.type(x, " ".repeat(79) + "x");
            return x;
        };
        Deep.refused("net() with a FAULT at 79", lastLetter, TrunkRadio::net, -89);
    }

    // "Read anew: as told, nothing can be UNDONE, nothing SEEN, IMAGES are gone."
    private static void readAnew() {
        Supplier<TrunkRadio> gaveUp = () -> {
            TrunkRadio x = Check.told("c1 1;a9;w1;r0 0 0;r0 1 0;r1 2 0;r1 3 0;");
            x.presses(0, 0);
            x.presses(3, 1);
            x.ticks(1);
            x.moves(2);
            x.presses(1, 0);
            x.ticks(9);
            x.controls(0, 0);
            x.controls(1, 0);
            x.ticks(2);
            Check.isTrue("BEGAN, CUT, GIVEN UP", x.count(4) > 0 && x.count(5) > 0 && x.count(6) > 0);
            return x;
        };
        String[] texts = {"", "c3 3;a3;r0 1 2;r1 5 0;", Made.SEVEN};
        for (String text : texts) {
            String due = Deep.trace(() -> Check.told(text));
            Check.isTrue("a busy one", due.equals(Deep.trace(() -> anew(Made.busy(), text))));
            Check.isTrue("a full one", due.equals(Deep.trace(() -> anew(Made.brim(), text))));
            Check.isTrue("one in which one gave up", due.equals(Deep.trace(() -> anew(gaveUp.get(), text))));
        }
    }

    private static TrunkRadio anew(TrunkRadio x, String text) {
        Check.isTrue("net of " + text, Check.net(x, text) >= 0);
        return x;
    }

    // "n TICKS (1 .. 12), an act each: ... BAD; FULL: TICK would be above 999."
    private static void ticks() {
        badOutside("ticks", 1, 12, TrunkRadio::ticks);
        TrunkRadio x = new TrunkRadio();
        Check.due("ticks(1)", x.ticks(1), 0);
        Check.due("TICK", x.count(3), 1);
        Check.due("acts", x.count(10), 1);
        Check.due("ticks(12)", x.ticks(12), 0);
        Check.due("TICK", x.count(3), 13);
        Check.due("acts", x.count(10), 12);
        for (int n = 3; n <= 12; n++) {
            int many = n;
            Deep.refused("ticks(" + n + ") at 997", Made::brim, y -> y.ticks(many), FULL);
        }
        // BAD comes ahead of FULL.
        Deep.refused("ticks(13) at 997", Made::brim, y -> y.ticks(13), BAD);
        Deep.refused("ticks(0) at 997", Made::brim, y -> y.ticks(0), BAD);
        TrunkRadio brim = Made.brim();
        Check.due("ticks(2) at 997", brim.ticks(2), 1);
        Check.due("TICK", brim.count(3), 999);
        Supplier<TrunkRadio> end = () -> {
            TrunkRadio y = Made.brim();
            y.ticks(1);
            y.ticks(1);
            return y;
        };
        Check.due("TICK", end.get().count(3), 999);
        Deep.refused("ticks(1) at 999", end, y -> y.ticks(1), FULL);
        Deep.refused("ticks(12) at 999", end, y -> y.ticks(12), FULL);
        Deep.refused("ticks(13) at 999", end, y -> y.ticks(13), BAD);
        Deep.refused("ticks(0) at 999", end, y -> y.ticks(0), BAD);
        TrunkRadio y = end.get();
        Check.due("undo() at 999", y.undo(), 11);
        Check.due("ticks(2) at 998", y.ticks(2), FULL);
        Check.due("ticks(1) at 998", y.ticks(1), 1);
        y.back(0);
        Check.due("ticks(12) at 984", y.ticks(12), 0);
        y.net();
        Check.due("ticks(12) anew", y.ticks(12), 0);
        Check.due("TICK anew", y.count(3), 12);
        // Things other than TICKS go on at 999.
        TrunkRadio z = end.get();
        Check.due("presses at 999", z.presses(2, 0), 1);
        Check.due("soon at 999", z.soon(2), 1);
        Check.due("within at 999", z.within(60, 2), 2);
        Check.due("TICK is still", z.count(3), 999);
    }

    // "PRESSED, URGENT (1) or not (0): its SITE. BAD; STATE: it is not IDLE."
    private static void presses() {
        badRadio("presses", (x, n) -> x.presses(n, 0));
        badOutside("presses(6, urgent)", 0, 1, (x, n) -> x.presses(6, n));
        badOutside("presses(0, urgent)", 0, 1, (x, n) -> x.presses(0, n));
        Check.due("presses(6, 0)", Made.busy().presses(6, 0), 1);
        TrunkRadio x = Made.busy();
        Check.due("presses(6, 1)", x.presses(6, 1), 1);
        Check.dueRadio(x, 6, 1, 0, 1, 0);
        Check.due("an IDLE one at SITE 0", Made.one().presses(0, 0), 0);
        for (int radio = 0; radio < 6; radio++) {
            int one = radio;
            Deep.refused("presses(" + radio + ", 0) of one who is not IDLE", Made::busy, y -> y.presses(one, 0), STATE);
            Deep.refused("presses(" + radio + ", 1) of one who is not IDLE", Made::busy, y -> y.presses(one, 1), STATE);
            // BAD comes ahead of STATE.
            Deep.refused("presses(" + radio + ", 2)", Made::busy, y -> y.presses(one, 2), BAD);
            Deep.refused("presses(" + radio + ", -1)", Made::busy, y -> y.presses(one, -1), BAD);
        }
    }

    // "RELEASED: how it was (1 to 5). BAD; STATE: it is IDLE."
    private static void releases() {
        int[] was = {4, 3, 2, 2, 5, 1};
        badRadio("releases", TrunkRadio::releases);
        for (int radio = 0; radio < 6; radio++) {
            TrunkRadio x = Made.busy();
            Check.due("releases(" + radio + ")", x.releases(radio), was[radio]);
            Check.dueRadio(x, radio, 0, 0, 0, 0);
            Check.due("releases(" + radio + ") again", x.releases(radio), STATE);
        }
        Deep.refused("releases(6) of an IDLE one", Made::busy, x -> x.releases(6), STATE);
        Deep.refused("releases(0) of an IDLE one", Made::one, x -> x.releases(0), STATE);
        Deep.refused("releases(2) of an IDLE one", Made::brim, x -> x.releases(2), STATE);
    }

    // "LOST (is = 0), BACK (1): how many TICKS ago it was LOST (0: it had it). BAD; STATE: it is so."
    private static void controls() {
        badOutside("controls(site, 0)", 0, 1, (x, n) -> x.controls(n, 0));
        badOutside("controls(site, 1)", 0, 1, (x, n) -> x.controls(n, 1));
        badOutside("controls(0, is)", 0, 1, (x, n) -> x.controls(0, n));
        badOutside("controls(1, is)", 0, 1, (x, n) -> x.controls(1, n));
        Check.due("controls(0, 0)", Made.busy().controls(0, 0), 0);
        Check.due("controls(1, 1)", Made.busy().controls(1, 1), 5);
        Check.due("controls(1, 1) at 99", Made.brim().controls(1, 1), 99);
        Check.due("controls(1, 0)", Made.fresh().controls(1, 0), 0);
        Deep.refused("controls(0, 1) that has it", Made::busy, x -> x.controls(0, 1), STATE);
        Deep.refused("controls(1, 0) that LOST it", Made::busy, x -> x.controls(1, 0), STATE);
        Deep.refused("controls(1, 0) at 99", Made::brim, x -> x.controls(1, 0), STATE);
        Deep.refused("controls(0, 1) of a new one", Made::fresh, x -> x.controls(0, 1), STATE);
        Deep.refused("controls(1, 1) of a new one", Made::fresh, x -> x.controls(1, 1), STATE);
        TrunkRadio x = Made.one();
        x.controls(0, 0);
        Check.due("LOST at once again", x.controls(0, 0), STATE);
        Check.due("BACK at once", x.controls(0, 1), 0);
        Check.due("BACK again", x.controls(0, 1), STATE);
    }

    // "MOVED: its SITE then. BAD; STATE: it is not IDLE."
    private static void moves() {
        badRadio("moves", TrunkRadio::moves);
        Check.due("moves(6) from SITE 1", Made.busy().moves(6), 0);
        TrunkRadio x = Made.one();
        Check.due("moves(0) from SITE 0", x.moves(0), 1);
        Check.due("moves(0) back", x.moves(0), 0);
        for (int radio = 0; radio < 6; radio++) {
            int one = radio;
            Deep.refused("moves(" + radio + ") of one who is not IDLE", Made::busy, y -> y.moves(one), STATE);
        }
    }

    // "UNDONE: how many more may be. STATE: none."
    private static void undo() {
        Deep.refused("undo() of a new one", Made::fresh, TrunkRadio::undo, STATE);
        Deep.refused("undo() behind net()", Made::one, TrunkRadio::undo, STATE);
        Supplier<TrunkRadio> back = () -> {
            TrunkRadio x = Made.busy();
            x.back(0);
            return x;
        };
        Deep.refused("undo() behind back()", back, TrunkRadio::undo, STATE);
        Supplier<TrunkRadio> spent = () -> {
            TrunkRadio x = Made.busy();
            for (int left = 11; left >= 0; left--) {
                x.undo();
            }
            return x;
        };
        Deep.refused("undo() behind 12 of them", spent, TrunkRadio::undo, STATE);
        TrunkRadio x = Made.busy();
        for (int left = 11; left >= 0; left--) {
            Check.due("undo()", x.undo(), left);
        }
        Check.due("a 13th", x.undo(), STATE);
    }

    // "Of a RADIO: 0 SITE .. 6 SITES at which it has a CHANNEL (bits). BAD."
    private static void radio() {
        for (int what = 0; what <= 6; what++) {
            int which = what;
            badRadio("radio(.., " + what + ")", (x, n) -> x.radio(n, which));
        }
        badOutside("radio(0, what)", 0, 6, (x, n) -> x.radio(0, n));
        badOutside("radio(6, what)", 0, 6, (x, n) -> x.radio(6, n));
        int[][] due = {{0, 0, 0, 4, 2, 0, 1}, {0, 1, 1, 3, 2, 0, 0}, {0, 2, 2, 2, 3, 0, 0}, {0, 3, 3, 2, 1, 0, 0},
            {1, 4, 0, 5, 3, 0, 0}, {1, 5, 1, 1, 0, 1, 0}, {1, 0, 2, 0, 0, 0, 0}};
        dueTable("radio", Made.busy()::radio, due);
    }

    // "Of a SITE: 0 CHANNELS, 1 how many are free, 2 whether it has CONTROL, 3 TICKS since it is LOST (0). BAD."
    private static void site() {
        for (int what = 0; what <= 3; what++) {
            int which = what;
            badOutside("site(.., " + what + ")", 0, 1, (x, n) -> x.site(n, which));
        }
        badOutside("site(0, what)", 0, 3, (x, n) -> x.site(0, n));
        badOutside("site(1, what)", 0, 3, (x, n) -> x.site(1, n));
        dueTable("site", Made.busy()::site, new int[][] {{1, 0, 1, 0}, {2, 2, 0, 5}});
        dueTable("site", Made.brim()::site, new int[][] {{1, 0, 1, 0}, {1, 1, 0, 99}});
        dueTable("site", Made.fresh()::site, new int[][] {{2, 2, 1, 0}, {2, 2, 1, 0}});
    }

    private static void dueTable(String name, IntBinaryOperator call, int[][] due) {
        for (int row = 0; row < due.length; row++) {
            for (int what = 0; what < due[row].length; what++) {
                Check.due(name + "(" + row + ", " + what + ")", call.applyAsInt(row, what), due[row][what]);
            }
        }
    }

    // "The RADIO that is TALKING of a GROUP; NONE. BAD."
    private static void talker() {
        badOutside("talker", 0, 5, TrunkRadio::talker);
        TrunkRadio x = Made.busy();
        Check.due("talker(0)", x.talker(0), 0);
        for (int group = 1; group <= 5; group++) {
            Check.due("talker(" + group + ")", x.talker(group), NONE);
        }
        Check.due("talker(5) without RADIOS", Made.fresh().talker(5), NONE);
        TrunkRadio y = Check.told("r1 5 0;");
        y.presses(0, 0);
        Check.due("who is SENT", y.talker(5), NONE);
        y.ticks(1);
        Check.due("talker(5)", y.talker(5), 0);
    }

    // "The k-th of QUEUED ones in the order of 5 (0 on); NONE. BAD."
    private static void queue() {
        for (int k : new int[] {-1, -2, Integer.MIN_VALUE}) {
            Deep.refused("queue(" + k + ")", Made::busy, x -> x.queue(k), BAD);
            Deep.refused("queue(" + k + ")", Made::fresh, x -> x.queue(k), BAD);
        }
        TrunkRadio x = Made.busy();
        Check.due("queue(0)", x.queue(0), 1);
        for (int k : new int[] {1, 6, 7, 8, Integer.MAX_VALUE}) {
            Check.due("queue(" + k + ")", x.queue(k), NONE);
            Check.due("queue(" + k + ") without RADIOS", Made.fresh().queue(k), NONE);
        }
        Check.due("queue(0) without RADIOS", Made.fresh().queue(0), NONE);
        // Six are QUEUED behind one who TALKS: it is URGENT, so the others wait.
        TrunkRadio y = Check.told("c1 1;a9;w20;r0 0 0;r0 1 0;r0 2 0;r0 3 0;r0 4 0;r0 5 0;r0 0 0;");
        y.presses(6, 1);
        y.ticks(1);
        for (int radio = 5; radio >= 0; radio--) {
            y.presses(radio, 0);
            y.ticks(1);
        }
        for (int k = 0; k < 6; k++) {
            Check.due("queue(" + k + ") of six", y.queue(k), 5 - k);
        }
        Check.due("queue(6) of six", y.queue(6), NONE);
        Check.due("how many are QUEUED", y.count(7), 6);
    }

    // "SOON; NONE. BAD."
    private static void soon() {
        badRadio("soon", TrunkRadio::soon);
        TrunkRadio x = Made.busy();
        Check.due("of one who TALKS", x.soon(0), 0);
        Check.due("of a SOFT one", x.soon(4), 0);
        Check.due("of an IDLE one", x.soon(6), NONE);
    }

    // "FULLY (site 0, 1), BEGUN (2), GAVE (3) in n TICKS. BAD."
    private static void within() {
        for (int what = 0; what <= 3; what++) {
            int which = what;
            badOutside("within(.., " + what + ")", 1, 60, (x, n) -> x.within(n, which));
            Check.due("within(1, ..) of a new one", Made.fresh().within(1, what), 0);
            Check.due("within(60, ..) of a new one", Made.fresh().within(60, what), 0);
        }
        badOutside("within(1, what)", 0, 3, (x, n) -> x.within(1, n));
        badOutside("within(60, what)", 0, 3, (x, n) -> x.within(60, n));
        Deep.refused("within(0, 4)", Made::busy, x -> x.within(0, 4), BAD);
    }

    // "WAVE (what = 0), ENOUGH (1); NONE. BAD." A set has no bits but those of RADIOS.
    private static void wave() {
        int[] radios = {0, 1, 3, 7};
        for (int i = 0; i < 4; i++) {
            Supplier<TrunkRadio> made = byRadios(i);
            int most = (1 << radios[i]) - 1;
            for (int set : new int[] {-1, most + 1, most + 2, 128, 255, 1 << 30, Integer.MIN_VALUE, Integer.MAX_VALUE}) {
                Deep.refused("wave(" + set + ", 0) by " + radios[i], made, x -> x.wave(set, 0), BAD);
                Deep.refused("wave(" + set + ", 1) by " + radios[i], made, x -> x.wave(set, 1), BAD);
            }
            for (int what : new int[] {-1, 2, Integer.MIN_VALUE, Integer.MAX_VALUE}) {
                Deep.refused("wave(0, " + what + ") by " + radios[i], made, x -> x.wave(0, what), BAD);
                Deep.refused("wave(" + most + ", " + what + ")", made, x -> x.wave(most, what), BAD);
            }
            Check.isTrue("the greatest set", made.get().wave(most, 0) != BAD && made.get().wave(most, 1) != BAD);
            Check.isTrue("the empty set", made.get().wave(0, 0) != BAD && made.get().wave(0, 1) != BAD);
        }
        Check.due("wave(0, 0) without RADIOS", Made.fresh().wave(0, 0), 0);
        Check.due("wave(0, 1) without RADIOS", Made.fresh().wave(0, 1), 1);
        Check.due("wave(1, 0) of one", Made.one().wave(1, 0), 1);
        Check.due("wave(1, 1) of one", Made.one().wave(1, 1), 1);
    }

    // "ODDS by x (0 .. 10) of a RADIO, n TICKS (1 .. 20)"; "upper (what = 0), lower number (1) .. BAD."
    private static void odds() {
        badOutside("odds(x, 0, 1, 0)", 0, 10, (x, n) -> x.odds(n, 0, 1, 0));
        badOutside("odds(x, 0, 20, 1)", 0, 10, (x, n) -> x.odds(n, 0, 20, 1));
        badRadio("odds(0, radio, 1, 0)", (x, n) -> x.odds(0, n, 1, 0));
        badRadio("odds(10, radio, 20, 1)", (x, n) -> x.odds(10, n, 20, 1));
        badOutside("odds(0, 0, n, 0)", 1, 20, (x, n) -> x.odds(0, 0, n, 0));
        badOutside("odds(10, 0, n, 1)", 1, 20, (x, n) -> x.odds(10, 0, n, 1));
        badOutside("odds(0, 0, 1, what)", 0, 1, (x, n) -> x.odds(0, 0, 1, n));
        badOutside("odds(10, 0, 20, what)", 0, 1, (x, n) -> x.odds(10, 0, 20, n));
        for (int chance : new int[] {0, 10}) {
            for (int n : new int[] {1, 20}) {
                Check.due("odds of one alone, upper", Made.one().odds(chance, 0, n, 0), 1);
                Check.due("odds of one alone, lower", Made.one().odds(chance, 0, n, 1), 1);
            }
        }
    }

    // "SEEN: how much there is. BAD; FULL." "SEEN (6 at most) .. n TICKS (1 .. 20) .. (1), or was not (0)."
    private static void sees() {
        badOutside("sees(n, 0)", 1, 20, (x, n) -> x.sees(n, 0));
        badOutside("sees(n, 1)", 1, 20, (x, n) -> x.sees(n, 1));
        badOutside("sees(1, talked)", 0, 1, (x, n) -> x.sees(1, n));
        badOutside("sees(20, talked)", 0, 1, (x, n) -> x.sees(20, n));
        TrunkRadio x = new TrunkRadio();
        int[][] rows = {{1, 0}, {1, 1}, {20, 0}, {20, 1}, {1, 0}, {20, 1}};
        for (int i = 0; i < 6; i++) {
            Check.due("sees", x.sees(rows[i][0], rows[i][1]), i + 1);
            Check.due("count(8)", x.count(8), i + 1);
        }
        Check.due("a seventh", x.sees(1, 0), FULL);
        Check.due("count(8)", x.count(8), 6);
        for (int n : new int[] {1, 20}) {
            Deep.refused("a seventh, 0", Made::brim, y -> y.sees(n, 0), FULL);
            Deep.refused("a seventh, 1", Made::brim, y -> y.sees(n, 1), FULL);
        }
        // BAD comes ahead of FULL.
        Deep.refused("a seventh with n 0", Made::brim, y -> y.sees(0, 0), BAD);
        Deep.refused("a seventh with n 21", Made::brim, y -> y.sees(21, 1), BAD);
        Deep.refused("a seventh with talked 2", Made::brim, y -> y.sees(1, 2), BAD);
        Check.due("forget()", x.forget(), 6);
        Check.due("room again", x.sees(20, 0), 1);
    }

    // "RANKS (bits). BAD." "LOOK; NONE. BAD."
    private static void ranksAndLook() {
        badRadio("ranks", TrunkRadio::ranks);
        badRadio("look", TrunkRadio::look);
    }

    // "An IMAGE is kept: TICK. BAD."
    private static void keep() {
        badOutside("keep", 0, 1, TrunkRadio::keep);
        Check.due("keep(0) at 0", Made.fresh().keep(0), 0);
        Check.due("keep(1) at 0", Made.fresh().keep(1), 0);
        Check.due("keep(0)", Made.busy().keep(0), 5);
        Check.due("keep(1)", Made.brim().keep(1), 997);
    }

    // "All of that becomes as an IMAGE has it: TICK. BAD; STATE: none was kept."
    private static void back() {
        // Where none was kept, an IMAGE that there is not is BAD, too: BAD comes ahead of STATE.
        badOutside("back", 0, 1, TrunkRadio::back);
        for (int image = 0; image < 2; image++) {
            int one = image;
            Deep.refused("back(" + image + ") of a new one", Made::fresh, x -> x.back(one), STATE);
            Deep.refused("back(" + image + ") behind net()", Made::one, x -> x.back(one), STATE);
            Supplier<TrunkRadio> anew = () -> {
                TrunkRadio x = Made.brim();
                x.net();
                x.ticks(1);
                return x;
            };
            Deep.refused("back(" + image + ") told anew", anew, x -> x.back(one), STATE);
            Supplier<TrunkRadio> other = () -> {
                TrunkRadio x = Made.one();
                x.keep(1 - one);
                x.ticks(2);
                return x;
            };
            Deep.refused("back(" + image + "), the other is kept", other, x -> x.back(one), STATE);
            Check.due("the other", other.get().back(1 - image), 0);
        }
        Check.due("back(0)", Made.busy().back(0), 3);
        Deep.refused("back(1)", Made::busy, x -> x.back(1), STATE);
    }

    // "0 RADIOS .. 10 how many may be UNDONE. BAD."
    private static void count() {
        badOutside("count", 0, 10, TrunkRadio::count);
        int[][] due = {{0, 4, 8, 0, 0, 0, 0, 0, 0, 0, 0}, {7, 9, 20, 5, 2, 0, 0, 1, 2, 22, 12},
            {3, 9, 20, 997, 1, 0, 0, 1, 6, 80, 12}};
        TrunkRadio[] made = {Made.fresh(), Made.busy(), Made.brim()};
        dueTable("count", (row, what) -> made[row].count(what), due);
    }
}
