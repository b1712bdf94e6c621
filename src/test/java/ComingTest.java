/** Promises 15 to 18: soon, within, wave, odds. */
public final class ComingTest {
    public static void main(String[] args) {
        soon();
        farAway();
        within();
        wave();
        enough();
        enoughByWhatIsTaken();
        odds();
        oddsOfOthers();
        wrongNumbers();
        nothingIsChanged();
        Check.end();
    }

    private static void soon() {
        TrunkRadio x = Check.told("c1 1;a3;r0 0 0;r0 1 0;r1 2 0;");
        Check.due("soon(0) of an IDLE one", x.soon(0), TrunkRadio.NONE);
        x.presses(0, 0);
        x.presses(1, 0);
        // 0 is BACKED 1, SENT, QUEUED and TALKING in TICK 3; 1 is QUEUED in TICK 4, TALKING in TICK 6.
        Check.due("soon(0)", x.soon(0), 3);
        Check.due("soon(1)", x.soon(1), 6);
        x.ticks(3);
        Check.due("soon(0) of one who TALKS", x.soon(0), 0);
        Check.due("soon(1)", x.soon(1), 3);
        x.controls(1, 0);
        x.presses(2, 0);
        Check.due("soon(2) to be SOFT", x.soon(2), 2);
        x.ticks(2);
        Check.due("soon(2) of a SOFT one", x.soon(2), 0);
        TrunkRadio y = Check.told("c1 1;a9;w1;r0 0 0;r0 1 0;");
        y.presses(0, 0);
        y.ticks(1);
        y.presses(1, 0);
        Check.due("soon(1) of one who gives up", y.soon(1), TrunkRadio.NONE);
    }

    /** Without CONTROL, by one CHANNEL, each is SOFT for 9 TICKS, and the next one in the TICK behind. */
    private static void farAway() {
        TrunkRadio x = Check.told("c1 1;a9;r0 0 0;r0 1 0;r0 2 0;r0 3 0;r0 4 0;r0 5 0;r0 0 0;");
        x.controls(0, 0);
        x.ticks(1);
        for (int radio = 0; radio < 7; radio++) {
            x.presses(radio, 0);
        }
        Check.due("soon(0)", x.soon(0), 1);
        Check.due("soon(5)", x.soon(5), 51);
        Check.due("soon(6) behind 61", x.soon(6), TrunkRadio.NONE);
        Check.due("wave behind 61", x.wave(0, 0), TrunkRadio.NONE);
        Check.due("BEGUN in 60", x.within(60, 2), 6);
        x.ticks(1);
        Check.due("soon(6) behind 60", x.soon(6), 60);
        Check.due("wave behind 60", x.wave(0, 0), 60);
        Check.due("BEGUN in 59", x.within(59, 2), 5);
        Check.due("BEGUN in 60", x.within(60, 2), 6);
        dueOdds(x, 5, 2, 19, 0, 1);
        dueOdds(x, 5, 2, 20, 1, 1);
    }

    private static void within() {
        TrunkRadio x = Check.told("c1 2;a3;w2;r0 0 0;r1 0 0;r0 1 0;r1 2 0;");
        x.presses(0, 0);
        x.presses(2, 0);
        // TICK 3: 0 TALKS at both, 2 (BACKED 3) is SENT in 4, QUEUED in 5, 0 is CUT in 6, 2 TALKS in 6, is CUT in 9.
        Check.due("FULLY of 0 in 2", x.within(2, 0), 0);
        Check.due("FULLY of 0 in 3", x.within(3, 0), 1);
        Check.due("FULLY of 0 in 60", x.within(60, 0), 6);
        Check.due("FULLY of 1 in 60", x.within(60, 1), 0);
        Check.due("BEGUN in 2", x.within(2, 2), 0);
        Check.due("BEGUN in 5", x.within(5, 2), 1);
        Check.due("BEGUN in 6", x.within(6, 2), 2);
        Check.due("GAVE in 60", x.within(60, 3), 0);
        x.ticks(3);
        Check.due("BEGUN counts from NOW on", x.within(60, 2), 1);
        Check.due("FULLY counts behind TICKS alone", x.within(1, 0), 1);
        TrunkRadio y = Check.told("c1 1;a9;w2;r0 0 0;r0 1 0;r1 2 0;r1 3 0;");
        y.presses(0, 1);
        y.ticks(1);
        y.presses(1, 0);
        Check.due("GAVE in 2", y.within(2, 3), 0);
        Check.due("GAVE in 3", y.within(3, 3), 1);
        y.controls(1, 0);
        y.presses(2, 0);
        Check.due("a SOFT one has BEGUN", y.within(2, 2), 1);
        Check.due("a SOFT one takes no CHANNEL", y.within(9, 1), 0);
        y.ticks(3);
        Check.due("GAVE counts from NOW on", y.within(60, 3), 0);
    }

    private static void wave() {
        TrunkRadio x = Check.told("c1 1;a3;w20;r0 0 0;r0 1 0;r1 2 0;");
        Check.due("wave of none", x.wave(0, 0), 0);
        Check.due("wave of 0", x.wave(1, 0), 1);
        Check.due("wave of 0 and 2", x.wave(5, 0), 1);
        // As in soon(): 1 TALKS in TICK 6.
        Check.due("wave of 0 and 1", x.wave(3, 0), 6);
        x.presses(0, 0);
        Check.due("one who is SENT is waited for", x.wave(0, 0), 1);
        x.ticks(1);
        Check.due("one who TALKS is not", x.wave(1, 0), 0);
        Check.due("one who TALKS stays", x.wave(3, 0), 3);
        x.controls(1, 0);
        x.controls(1, 1);
        Check.due("a wave is not URGENT", x.wave(2, 0), 3);
        TrunkRadio y = Check.told("c2 2;r0 0 0;r0 0 0;r0 0 0;r0 0 0;r0 0 0;r0 0 0;r0 0 0;");
        Check.due("numbers that leave the same never part", y.wave(127, 0), TrunkRadio.NONE);
        Check.due("nor do 0 and 3", y.wave(9, 0), TrunkRadio.NONE);
        Check.due("but none gives up", y.wave(9, 1), 1);
    }

    private static void enough() {
        TrunkRadio x = Check.told("c2 2;a9;w1;r0 0 0;r0 1 0;r0 2 0;r1 3 0;");
        Check.due("of none", x.wave(0, 1), 1);
        Check.due("of one", x.wave(1, 1), 1);
        Check.due("of one at each", x.wave(9, 1), 1);
        Check.due("of two", x.wave(3, 1), 2);
        Check.due("of three", x.wave(7, 1), 3);
        TrunkRadio y = Check.told("c3 3;a9;w1;r0 0 0;r0 1 0;r0 2 0;r0 3 0;");
        // 0 and 3 collide for ever, and 2 with them: 1 alone is heard.
        Check.due("of 0, 1, 2, 3", y.wave(15, 1), 1);
        TrunkRadio z = Check.told("c1 1;a9;w1;r0 0 0;r0 0 0;");
        Check.due("two of one GROUP", z.wave(3, 1), TrunkRadio.NONE);
    }

    private static void enoughByWhatIsTaken() {
        TrunkRadio x = Check.told("c3 3;a9;w1;r0 0 0;r0 1 0;r0 2 0;r1 3 0;r1 4 0;");
        x.presses(0, 0);
        x.ticks(1);
        x.presses(1, 0);
        x.ticks(1);
        Check.due("none more", x.wave(0, 1), 1);
        Check.due("one more at the other SITE", x.wave(8, 1), 1);
        Check.due("two more at the other SITE", x.wave(24, 1), 2);
        Check.due("one more where two are taken", x.wave(4, 1), 3);
        // Without CONTROL GROUPS that leave the same by the CHANNELS of the trial wait as SENT; none can give up.
        x.controls(1, 0);
        Check.due("SOFT ones never give up", x.wave(24, 1), 1);
        // What a trial or a text with a FAULT told must not be left behind.
        Check.net(x, "c3 3;a1;w9;r0 0 0;x");
        Check.due("behind a FAULT", x.wave(4, 1), 3);
        x.presses(2, 0);
        x.wave(0, 1);
        x.sees(1, 1);
        Check.due("ranks behind a trial", x.ranks(2), 15);
        // 1 waits NOW already, and gives up with one CHANNEL.
        TrunkRadio y = Check.told("c1 1;a9;w2;r0 0 0;r0 1 0;");
        y.presses(0, 0);
        y.ticks(1);
        y.presses(1, 0);
        y.ticks(1);
        Check.due("one who waits NOW counts", y.wave(0, 1), 2);
        y.ticks(2);
        Check.due("who gave up ahead of NOW does not", y.wave(0, 1), 1);
    }

    private static void dueOdds(TrunkRadio x, int tenths, int radio, int n, int upper, int lower) {
        String call = "odds(" + tenths + ", " + radio + ", " + n + ", ";
        Check.due(call + "0)", x.odds(tenths, radio, n, 0), upper);
        Check.due(call + "1)", x.odds(tenths, radio, n, 1), lower);
    }

    private static void odds() {
        TrunkRadio x = Check.told("c1 1;a3;w20;r0 0 0;r0 1 0;");
        // Alone 0 TALKS in TICK 1, with 1 in TICK 3; 1 TALKS in TICK 1 or 6.
        dueOdds(x, 0, 0, 1, 1, 1);
        dueOdds(x, 10, 0, 1, 0, 1);
        dueOdds(x, 10, 0, 2, 0, 1);
        dueOdds(x, 10, 0, 3, 1, 1);
        dueOdds(x, 4, 0, 1, 3, 5);
        dueOdds(x, 5, 1, 5, 1, 2);
        dueOdds(x, 5, 1, 6, 1, 1);
        dueOdds(x, 3, 1, 20, 1, 1);
        x.presses(1, 0);
        dueOdds(x, 0, 0, 2, 0, 1);
        dueOdds(x, 7, 0, 3, 1, 1);
        dueOdds(x, 7, 1, 1, 3, 10);
        x.ticks(1);
        dueOdds(x, 7, 1, 1, 1, 1);
        x.ticks(2);
        dueOdds(x, 7, 1, 20, 0, 1);
    }

    private static void oddsOfOthers() {
        TrunkRadio x = Check.told("c3 3;r0 0 0;r0 1 0;r0 2 0;r0 3 0;r0 4 0;r0 5 0;r0 0 0;");
        dueOdds(x, 1, 3, 1, 531441, 1000000);
        dueOdds(x, 5, 3, 1, 1, 64);
        dueOdds(x, 2, 6, 1, 4096, 15625);
        TrunkRadio y = Check.told("c1 1;a2;r0 0 0;r0 1 0;r1 2 0;");
        // 2 is at the other SITE: it does not matter.
        dueOdds(y, 3, 0, 2, 7, 10);
        y.controls(0, 0);
        dueOdds(y, 3, 1, 1, 0, 1);
        dueOdds(y, 3, 1, 2, 7, 10);
        dueOdds(y, 3, 0, 2, 1, 1);
    }

    private static void wrongNumbers() {
        TrunkRadio x = Check.told("r0 0 0;r1 1 1;");
        int[][] odds = {{-1, 0, 1, 0}, {11, 0, 1, 0}, {0, -1, 1, 0}, {0, 2, 1, 0}, {0, 0, 0, 0}, {0, 0, 21, 0},
            {0, 0, 1, -1}, {0, 0, 1, 2}};
        for (int[] o : odds) {
            Check.due("wrong odds", x.odds(o[0], o[1], o[2], o[3]), TrunkRadio.BAD);
        }
        Check.due("soon(2)", x.soon(2), TrunkRadio.BAD);
        Check.due("soon(-1)", x.soon(-1), TrunkRadio.BAD);
        int[][] within = {{0, 0}, {61, 0}, {-1, 0}, {1, -1}, {1, 4}};
        for (int[] w : within) {
            Check.due("wrong within", x.within(w[0], w[1]), TrunkRadio.BAD);
        }
        int[][] wave = {{-1, 0}, {4, 0}, {4, 1}, {0, -1}, {0, 2}, {Integer.MIN_VALUE, 0}, {Integer.MAX_VALUE, 1}};
        for (int[] w : wave) {
            Check.due("wrong wave", x.wave(w[0], w[1]), TrunkRadio.BAD);
        }
        Check.due("wave(3, 0)", x.wave(3, 0), 1);
        Check.due("no RADIOS: wave(1, 0)", new TrunkRadio().wave(1, 0), TrunkRadio.BAD);
    }

    private static void nothingIsChanged() {
        TrunkRadio x = Check.told("c1 1;a2;w2;r0 0 0;r0 1 1;r1 2 2;r1 0 3;");
        x.presses(0, 0);
        x.presses(2, 0);
        x.controls(1, 0);
        x.ticks(1);
        String before = Check.all(x);
        x.soon(0);
        x.within(60, 0);
        x.within(60, 3);
        x.wave(15, 0);
        x.wave(15, 1);
        x.odds(5, 1, 20, 0);
        x.ranks(2);
        x.look(2);
        x.talker(0);
        x.queue(0);
        Check.isTrue("nothing changed", before.equals(Check.all(x)));
    }
}
