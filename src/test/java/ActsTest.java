/** Promises 5 to 10: ticks, presses, releases, controls, moves, undo; and what a TICK does, step by step. */
public final class ActsTest {
    public static void main(String[] args) {
        ticks();
        presses();
        releases();
        controls();
        moves();
        undo();
        oneIsHeardAlone();
        othersAreBacked();
        urgentOnesAreHeard();
        withoutControl();
        softOnesShareNoChannel();
        lostIsCounted();
        talksAreCut();
        theQueueHasAnOrder();
        oneTalksInAGroup();
        channelsAtBothSites();
        urgentOnesTakeOverTheirGroup();
        urgentOnesTakeOverChannels();
        bothSitesAreTakenOver();
        nothingIsTakenWhereNotAllCanBe();
        oneGivesUp();
        Check.end();
    }

    private static void ticks() {
        TrunkRadio x = Check.told("r0 0 0;r1 1 0;");
        Check.due("ticks(0)", x.ticks(0), TrunkRadio.BAD);
        Check.due("ticks(13)", x.ticks(13), TrunkRadio.BAD);
        Check.due("ticks(-1)", x.ticks(-1), TrunkRadio.BAD);
        Check.due("ticks(MAX)", x.ticks(Integer.MAX_VALUE), TrunkRadio.BAD);
        x.presses(0, 0);
        x.presses(1, 0);
        Check.due("ticks(1)", x.ticks(1), 2);
        Check.due("an act each", x.count(10), 3);
        Check.due("ticks(4)", x.ticks(4), 0);
        Check.due("an act each", x.count(10), 7);
        Check.due("TICK", x.count(3), 5);
        Check.due("ticks(7)", x.ticks(7), 0);
        for (int i = 1; i < 83; i++) {
            x.ticks(12);
        }
        Check.due("TICK", x.count(3), 996);
        String before = Check.all(x);
        Check.due("ticks(4) at 996", x.ticks(4), TrunkRadio.FULL);
        Check.due("ticks(13) at 996", x.ticks(13), TrunkRadio.BAD);
        Check.isTrue("nothing changed", before.equals(Check.all(x)));
        Check.due("ticks(3) at 996", x.ticks(3), 0);
        Check.due("TICK", x.count(3), 999);
        Check.due("ticks(1) at 999", x.ticks(1), TrunkRadio.FULL);
        x.presses(0, 0);
        Check.due("soon(0) at 999", x.soon(0), 1);
        x.undo();
        x.undo();
        Check.due("ticks(1) at 998", x.ticks(1), 0);
    }

    private static void presses() {
        TrunkRadio x = Check.told("r0 0 0;r1 1 1;");
        Check.due("presses(2, 0)", x.presses(2, 0), TrunkRadio.BAD);
        Check.due("presses(-1, 0)", x.presses(-1, 0), TrunkRadio.BAD);
        Check.due("presses(0, 2)", x.presses(0, 2), TrunkRadio.BAD);
        Check.due("presses(0, -1)", x.presses(0, -1), TrunkRadio.BAD);
        Check.due("no act yet", x.count(10), 0);
        Check.due("presses(0, 0)", x.presses(0, 0), 0);
        Check.dueRadio(x, 0, 1, 0, 0, 0);
        Check.due("presses(1, 1)", x.presses(1, 1), 1);
        Check.dueRadio(x, 1, 1, 0, 1, 0);
        Check.due("presses(1, 0) again", x.presses(1, 0), TrunkRadio.STATE);
        Check.due("presses(1, 2) again", x.presses(1, 2), TrunkRadio.BAD);
        Check.dueRadio(x, 1, 1, 0, 1, 0);
        Check.due("acts", x.count(10), 2);
        x.ticks(1);
        Check.due("presses(0, 0) of one who talks", x.presses(0, 0), TrunkRadio.STATE);
    }

    private static void releases() {
        TrunkRadio x = Check.told("c1 1;r0 0 0;r0 1 0;r0 2 0;r1 3 0;r1 4 0;");
        Check.due("releases(5)", x.releases(5), TrunkRadio.BAD);
        Check.due("releases(-1)", x.releases(-1), TrunkRadio.BAD);
        Check.due("releases(0) of an IDLE one", x.releases(0), TrunkRadio.STATE);
        Check.due("no act yet", x.count(10), 0);
        x.presses(0, 1);
        x.ticks(1);
        x.presses(1, 1);
        x.presses(2, 0);
        x.ticks(1);
        Check.due("2 was BACKED", x.releases(2), 2);
        Check.dueRadio(x, 2, 0, 0, 0, 0);
        Check.due("1 was QUEUED", x.releases(1), 3);
        Check.dueRadio(x, 1, 0, 0, 0, 0);
        Check.due("0 was TALKING", x.releases(0), 4);
        Check.dueRadio(x, 0, 0, 0, 0, 0);
        Check.due("its CHANNEL is free", x.site(0, 1), 1);
        Check.due("none was CUT", x.count(5), 0);
        x.presses(0, 1);
        Check.due("0 was SENT", x.releases(0), 1);
        Check.dueRadio(x, 0, 0, 0, 0, 0);
        x.controls(1, 0);
        x.presses(3, 0);
        x.ticks(2);
        Check.due("3 was SOFT", x.releases(3), 5);
        Check.dueRadio(x, 3, 0, 0, 0, 0);
        Check.due("acts", x.count(10), 12);
    }

    private static void controls() {
        TrunkRadio x = Check.told("r0 0 0;");
        Check.due("controls(2, 0)", x.controls(2, 0), TrunkRadio.BAD);
        Check.due("controls(-1, 0)", x.controls(-1, 0), TrunkRadio.BAD);
        Check.due("controls(0, 2)", x.controls(0, 2), TrunkRadio.BAD);
        Check.due("controls(0, -1)", x.controls(0, -1), TrunkRadio.BAD);
        Check.due("controls(0, 1) that has it", x.controls(0, 1), TrunkRadio.STATE);
        Check.due("no act yet", x.count(10), 0);
        Check.due("controls(0, 0)", x.controls(0, 0), 0);
        Check.due("LOST", x.site(0, 2), 0);
        Check.due("0 TICKS ago", x.site(0, 3), 0);
        Check.due("the other has it", x.site(1, 2), 1);
        Check.due("controls(0, 0) again", x.controls(0, 0), TrunkRadio.STATE);
        x.ticks(3);
        Check.due("3 TICKS ago", x.site(0, 3), 3);
        Check.due("0 at the other", x.site(1, 3), 0);
        Check.due("controls(0, 1)", x.controls(0, 1), 3);
        Check.due("BACK", x.site(0, 2), 1);
        Check.due("no TICKS", x.site(0, 3), 0);
        Check.due("controls(1, 0)", x.controls(1, 0), 0);
        Check.due("controls(1, 1) at once", x.controls(1, 1), 0);
        Check.due("acts", x.count(10), 7);
    }

    private static void moves() {
        TrunkRadio x = Check.told("r0 0 0;r1 0 0;");
        Check.due("moves(2)", x.moves(2), TrunkRadio.BAD);
        Check.due("moves(-1)", x.moves(-1), TrunkRadio.BAD);
        Check.due("moves(0)", x.moves(0), 1);
        Check.due("its SITE", x.radio(0, 0), 1);
        Check.due("moves(0) again", x.moves(0), 0);
        Check.due("moves(1)", x.moves(1), 0);
        Check.due("acts", x.count(10), 3);
        Check.due("presses(1, 0) there", x.presses(1, 0), 0);
        Check.due("moves(1) that is SENT", x.moves(1), TrunkRadio.STATE);
        x.ticks(1);
        Check.due("its CHANNEL is there alone", x.radio(1, 6), 1);
        Check.due("moves(1) that is TALKING", x.moves(1), TrunkRadio.STATE);
        Check.due("acts", x.count(10), 5);
        TrunkRadio y = Check.told("r0 0 0;r0 0 0;r1 0 0;");
        Check.due("moves(1) away from 0", y.moves(1), 1);
        Check.due("moves(2) to 0", y.moves(2), 0);
        int[] sites = {0, 1, 0};
        for (int radio = 0; radio < 3; radio++) {
            Check.due("SITE of " + radio, y.radio(radio, 0), sites[radio]);
        }
    }

    private static void undo() {
        TrunkRadio x = Check.told("c1 1;a2;w1;r0 0 0;r0 1 0;r1 2 0;");
        Check.due("undo() of nothing", x.undo(), TrunkRadio.STATE);
        String[] states = new String[20];
        int acts = 0;
        for (int act = 0; act < 16; act++) {
            states[act] = state(x);
            switch (act) {
                case 0: x.presses(0, 0); break;
                case 2: x.presses(1, 0); break;
                case 3: x.controls(1, 0); break;
                case 4: x.presses(2, 1); break;
                case 6: x.releases(1); break;
                case 7: x.moves(1); break;
                case 8: x.presses(1, 0); break;
                case 10: x.controls(1, 1); break;
                case 11: x.presses(0, 0); break;
                default: x.ticks(1);
            }
            acts++;
            Check.due("acts known", x.count(10), Math.min(12, acts));
        }
        Check.due("refused", x.ticks(0), TrunkRadio.BAD);
        x.sees(1, 1);
        x.type('a');
        for (int act = 15; act >= 4; act--) {
            Check.due("undo()", x.undo(), act - 4);
            Check.isTrue("as ahead of act " + act, states[act].equals(state(x)));
            Check.due("count(10)", x.count(10), act - 4);
        }
        Check.due("older ones are lost", x.undo(), TrunkRadio.STATE);
        Check.due("SEEN stays", x.count(8), 1);
        Check.due("the text stays", x.count(9), 1);
        Check.due("an act behind undo()", x.ticks(2), 1);
        Check.due("undo()", x.undo(), 1);
        Check.due("undo()", x.undo(), 0);
        Check.isTrue("as ahead of act 4", states[4].equals(state(x)));
        TrunkRadio y = Check.told("r0 0 0;");
        y.ticks(12);
        y.ticks(5);
        Check.due("undo() of one TICK of many", y.undo(), 11);
        Check.due("TICK", y.count(3), 16);
    }

    /** All but what an undo() leaves alone. */
    private static String state(TrunkRadio x) {
        StringBuilder all = new StringBuilder();
        for (int what = 3; what <= 7; what++) {
            all.append(x.count(what)).append(' ');
        }
        for (int radio = 0; radio < x.count(0); radio++) {
            for (int what = 0; what < 7; what++) {
                all.append(x.radio(radio, what)).append(' ');
            }
        }
        for (int site = 0; site < 2; site++) {
            for (int what = 0; what < 4; what++) {
                all.append(x.site(site, what)).append(' ');
            }
        }
        return all.toString();
    }

    private static void oneIsHeardAlone() {
        TrunkRadio x = Check.told("c1 1;r0 0 0;r0 1 0;r1 2 0;");
        x.presses(0, 0);
        x.presses(2, 0);
        Check.due("one at each SITE is heard", x.ticks(1), 2);
        Check.dueRadio(x, 0, 4, 0, 0, 1);
        Check.dueRadio(x, 2, 4, 0, 0, 2);
        x.presses(1, 0);
        Check.due("heard, but no CHANNEL", x.ticks(1), 2);
        Check.dueRadio(x, 1, 3, 1, 0, 0);
        Check.dueRadio(x, 0, 4, 1, 0, 1);
    }

    private static void othersAreBacked() {
        TrunkRadio x = Check.told("c3 3;r0 0 0;r0 1 0;r0 2 0;r0 3 0;r0 4 0;r0 5 0;r0 0 0;");
        for (int radio = 0; radio < 7; radio++) {
            x.presses(radio, 0);
        }
        Check.due("none is heard", x.ticks(1), 0);
        for (int radio = 0; radio < 7; radio++) {
            Check.dueRadio(x, radio, 2, 1 + radio % 3, 0, 0);
        }
        x.ticks(1);
        Check.dueRadio(x, 0, 1, 0, 0, 0);
        Check.dueRadio(x, 1, 2, 1, 0, 0);
        Check.dueRadio(x, 2, 2, 2, 0, 0);
        x.ticks(1);
        Check.dueRadio(x, 0, 2, 1, 0, 0);
        Check.dueRadio(x, 1, 1, 0, 0, 0);
        Check.dueRadio(x, 2, 2, 1, 0, 0);
        Check.dueRadio(x, 3, 2, 1, 0, 0);
    }

    private static void urgentOnesAreHeard() {
        TrunkRadio x = Check.told("c3 3;r0 0 0;r0 1 0;r0 2 0;r1 3 0;r1 4 0;");
        x.presses(0, 0);
        x.presses(1, 1);
        x.presses(2, 1);
        x.presses(3, 0);
        x.presses(4, 0);
        Check.due("the lowest URGENT one", x.ticks(1), 1);
        Check.dueRadio(x, 0, 2, 1, 0, 0);
        Check.dueRadio(x, 1, 4, 0, 1, 1);
        Check.dueRadio(x, 2, 2, 3, 1, 0);
        Check.dueRadio(x, 3, 2, 1, 0, 0);
        Check.dueRadio(x, 4, 2, 2, 0, 0);
    }

    private static void withoutControl() {
        TrunkRadio x = Check.told("c2 2;a3;r0 0 0;r0 1 0;r0 2 0;r1 3 0;");
        x.controls(0, 0);
        x.presses(2, 0);
        x.presses(1, 1);
        x.presses(0, 0);
        Check.due("LOST 1 TICK ago: they stay SENT", x.ticks(1), 0);
        Check.dueRadio(x, 0, 1, 0, 0, 0);
        Check.dueRadio(x, 1, 1, 0, 1, 0);
        Check.due("LOST 2 TICKS ago: 0 and 1 are SOFT", x.ticks(1), 2);
        Check.dueRadio(x, 0, 5, 0, 0, 0);
        Check.dueRadio(x, 1, 5, 0, 1, 0);
        Check.dueRadio(x, 2, 1, 0, 0, 0);
        Check.due("no CHANNEL is taken", x.site(0, 1), 2);
        Check.due("no one TALKS", x.talker(0), TrunkRadio.NONE);
        Check.due("both BEGAN", x.count(4), 2);
        x.ticks(2);
        Check.dueRadio(x, 0, 5, 2, 0, 0);
        Check.due("0 and 1 are CUT behind the step in which 2 tries", x.ticks(1), 0);
        Check.due("CUT", x.count(5), 2);
        Check.dueRadio(x, 1, 0, 0, 0, 0);
        Check.due("2 is SOFT", x.ticks(1), 1);
        Check.due("controls(0, 1)", x.controls(0, 1), 6);
        Check.due("it stays SOFT", x.ticks(1), 1);
        Check.dueRadio(x, 2, 5, 1, 0, 0);
        x.presses(0, 0);
        Check.due("heard beside a SOFT one", x.ticks(1), 2);
        Check.dueRadio(x, 0, 4, 0, 0, 1);
        TrunkRadio y = Check.told("r0 0 0;r0 1 0;");
        y.presses(0, 0);
        y.presses(1, 0);
        y.ticks(1);
        y.controls(0, 0);
        Check.due("a BACKED one is SENT again there", y.ticks(1), 0);
        Check.dueRadio(y, 0, 1, 0, 0, 0);
        Check.due("and SOFT then", y.ticks(1), 1);
        Check.dueRadio(y, 0, 5, 0, 0, 0);
        Check.dueRadio(y, 1, 1, 0, 0, 0);
    }

    private static void softOnesShareNoChannel() {
        TrunkRadio x = Check.told("c3 1;r0 1 0;r0 4 0;r0 5 0;r1 0 0;r1 5 0;");
        x.controls(0, 0);
        x.controls(1, 0);
        for (int radio = 0; radio < 5; radio++) {
            x.presses(radio, 0);
        }
        Check.due("ticks(2)", x.ticks(2), 3);
        int[] how = {5, 1, 5, 5, 1};
        for (int radio = 0; radio < 5; radio++) {
            Check.due("radio(" + radio + ", 3)", x.radio(radio, 3), how[radio]);
        }
        TrunkRadio y = Check.told("c1 1;a9;w9;r0 0 0;r0 1 0;");
        y.presses(0, 0);
        y.ticks(1);
        y.presses(1, 0);
        y.ticks(1);
        y.controls(0, 0);
        Check.due("who TALKS or is QUEUED goes on without CONTROL", y.ticks(7), 1);
        Check.dueRadio(y, 0, 4, 8, 0, 1);
        Check.dueRadio(y, 1, 3, 8, 0, 0);
        y.ticks(1);
        Check.dueRadio(y, 1, 4, 0, 0, 1);
    }

    private static void lostIsCounted() {
        TrunkRadio x = Check.told("r0 0 0;");
        x.controls(1, 0);
        for (int i = 0; i < 8; i++) {
            x.ticks(12);
        }
        Check.due("96 TICKS ago", x.site(1, 3), 96);
        x.ticks(3);
        Check.due("99 TICKS ago", x.site(1, 3), 99);
        x.ticks(1);
        Check.due("99 at most", x.site(1, 3), 99);
        Check.due("controls(1, 1)", x.controls(1, 1), 99);
    }

    private static void talksAreCut() {
        TrunkRadio x = Check.told("c1 1;a1;r0 0 0;r0 1 0;");
        x.presses(0, 0);
        Check.due("it TALKS", x.ticks(1), 1);
        x.presses(1, 0);
        Check.due("CUT, and the next one TALKS in that TICK", x.ticks(1), 1);
        Check.dueRadio(x, 0, 0, 0, 0, 0);
        Check.dueRadio(x, 1, 4, 0, 0, 1);
        Check.due("CUT", x.count(5), 1);
        Check.due("BEGAN", x.count(4), 2);
        Check.due("CUT too", x.ticks(1), 0);
        Check.due("CUT", x.count(5), 2);
        TrunkRadio y = Check.told("a9;r0 0 0;");
        y.presses(0, 0);
        y.ticks(9);
        Check.dueRadio(y, 0, 4, 8, 0, 1);
        y.ticks(1);
        Check.dueRadio(y, 0, 0, 0, 0, 0);
    }

    private static void theQueueHasAnOrder() {
        TrunkRadio x = Check.told("c1 1;a9;w20;r0 0 0;r0 1 0;r0 2 1;r0 3 0;r0 4 1;r0 5 0;");
        x.presses(0, 1);
        x.ticks(1);
        x.presses(1, 0);
        x.ticks(1);
        x.presses(2, 0);
        x.ticks(1);
        Check.due("rank 1 by 5, rank 0 by 2", x.queue(0), 2);
        Check.due("the other", x.queue(1), 1);
        x.presses(3, 0);
        x.ticks(1);
        x.presses(4, 0);
        x.ticks(1);
        x.presses(5, 1);
        x.ticks(1);
        // TICKS: 1 has 5, 2 has 4, 3 has 3, 4 has 2, 5 has 1.
        int[] order = {5, 2, 4, 1, 3, TrunkRadio.NONE};
        for (int k = 0; k < order.length; k++) {
            Check.due("queue(" + k + ")", x.queue(k), order[k]);
        }
        x.releases(0);
        x.ticks(1);
        Check.due("the URGENT one TALKS", x.talker(5), 5);
        x.releases(5);
        x.ticks(1);
        Check.due("rank 1 that waited longer TALKS", x.talker(2), 2);
        TrunkRadio y = Check.told("c1 1;a9;w20;r0 0 0;r0 1 1;r0 2 0;r1 0 0;");
        y.presses(0, 1);
        y.ticks(1);
        y.presses(2, 0);
        y.ticks(4);
        y.presses(1, 0);
        y.ticks(1);
        Check.due("like ones: the lowest", y.queue(0), 1);
        Check.due("like ones: the other", y.queue(1), 2);
        y.releases(0);
        y.ticks(1);
        Check.due("like ones: the lowest TALKS", y.talker(1), 1);
        TrunkRadio z = Check.told("c1 1;a9;w20;r0 0 0;r0 1 1;r0 2 0;");
        z.presses(0, 1);
        z.ticks(1);
        z.presses(2, 0);
        z.ticks(5);
        z.presses(1, 0);
        z.ticks(1);
        Check.due("6 is ahead of 4 + 1", z.queue(0), 2);
    }

    private static void oneTalksInAGroup() {
        TrunkRadio x = Check.told("c3 3;a2;r0 0 0;r0 0 3;r1 0 3;r0 1 0;");
        x.presses(0, 0);
        x.ticks(1);
        x.presses(1, 0);
        x.presses(2, 0);
        Check.due("others of the GROUP stay QUEUED", x.ticks(1), 1);
        Check.dueRadio(x, 0, 4, 1, 0, 3);
        Check.dueRadio(x, 1, 3, 1, 0, 0);
        Check.dueRadio(x, 2, 3, 1, 0, 0);
        Check.due("one of them TALKS", x.ticks(1), 1);
        Check.due("talker(0)", x.talker(0), 1);
        Check.dueRadio(x, 2, 3, 2, 0, 0);
    }

    private static void channelsAtBothSites() {
        TrunkRadio x = Check.told("c1 1;a9;w20;r0 0 0;r1 0 0;r0 1 0;r1 2 3;");
        x.presses(3, 0);
        x.ticks(1);
        Check.dueRadio(x, 3, 4, 0, 0, 2);
        x.presses(0, 0);
        x.ticks(1);
        Check.due("0 NEEDS both, and SITE 1 is full", x.radio(0, 3), 3);
        x.presses(2, 0);
        x.ticks(1);
        Check.dueRadio(x, 2, 4, 0, 0, 1);
        x.releases(2);
        x.controls(1, 0);
        x.ticks(1);
        Check.dueRadio(x, 0, 4, 0, 0, 1);
        x.releases(0);
        x.controls(1, 1);
        x.releases(3);
        x.presses(1, 0);
        x.controls(0, 0);
        x.ticks(1);
        Check.dueRadio(x, 1, 4, 0, 0, 2);
        x.releases(1);
        x.controls(0, 1);
        x.presses(1, 0);
        x.ticks(1);
        Check.dueRadio(x, 1, 4, 0, 0, 3);
        Check.due("SITE 0 is full", x.site(0, 1), 0);
        Check.due("SITE 1 is full", x.site(1, 1), 0);
    }

    private static void urgentOnesTakeOverTheirGroup() {
        TrunkRadio x = Check.told("c3 3;a9;r0 0 3;r0 0 0;r0 0 0;");
        x.presses(0, 0);
        x.ticks(1);
        x.presses(1, 1);
        Check.due("1 takes over", x.ticks(1), 1);
        Check.dueRadio(x, 0, 0, 0, 0, 0);
        Check.dueRadio(x, 1, 4, 0, 1, 1);
        Check.due("that is no CUT", x.count(5), 0);
        x.presses(2, 1);
        x.ticks(1);
        Check.dueRadio(x, 1, 4, 1, 1, 1);
        Check.dueRadio(x, 2, 3, 1, 1, 0);
        // 0 talks at SITE 0 alone, as SITE 1 is LOST; behind that the GROUP needs SITE 1, where an URGENT one talks.
        TrunkRadio y = Check.told("c1 1;a9;r0 0 0;r0 0 0;r1 0 0;r1 1 0;");
        y.controls(1, 0);
        y.presses(0, 0);
        y.ticks(1);
        Check.dueRadio(y, 0, 4, 0, 0, 1);
        y.controls(1, 1);
        y.presses(3, 1);
        y.ticks(1);
        y.presses(1, 1);
        Check.due("the talker is IDLE, though 1 has to stay", y.ticks(1), 1);
        Check.dueRadio(y, 0, 0, 0, 0, 0);
        Check.dueRadio(y, 1, 3, 1, 1, 0);
        Check.dueRadio(y, 3, 4, 1, 1, 2);
    }

    private static void urgentOnesTakeOverChannels() {
        TrunkRadio x = Check.told("c3 1;a9;r0 0 1;r0 1 0;r0 2 0;r0 3 0;r0 4 0;r0 5 0;");
        x.presses(0, 0);
        x.ticks(1);
        x.presses(1, 0);
        x.ticks(1);
        x.presses(2, 0);
        x.ticks(1);
        x.presses(3, 1);
        Check.due("three TALK", x.ticks(1), 3);
        Check.dueRadio(x, 2, 0, 0, 0, 0);
        Check.dueRadio(x, 3, 4, 0, 1, 1);
        x.presses(4, 1);
        x.ticks(1);
        Check.dueRadio(x, 1, 0, 0, 0, 0);
        Check.dueRadio(x, 4, 4, 0, 1, 1);
        x.presses(5, 1);
        x.ticks(1);
        Check.dueRadio(x, 0, 0, 0, 0, 0);
        Check.dueRadio(x, 5, 4, 0, 1, 1);
        x.presses(0, 1);
        x.ticks(1);
        Check.due("URGENT ones do not give way", x.radio(0, 3), 3);
        Check.due("none was CUT", x.count(5), 0);
    }

    private static void bothSitesAreTakenOver() {
        TrunkRadio x = Check.told("c1 1;a9;r0 0 0;r1 1 0;r0 2 0;r1 2 0;r0 3 3;r1 3 0;");
        x.presses(0, 0);
        x.presses(1, 0);
        x.ticks(1);
        Check.dueRadio(x, 0, 4, 0, 0, 1);
        Check.dueRadio(x, 1, 4, 0, 0, 2);
        x.presses(2, 1);
        Check.due("one talks at both", x.ticks(1), 1);
        Check.dueRadio(x, 0, 0, 0, 0, 0);
        Check.dueRadio(x, 1, 0, 0, 0, 0);
        Check.dueRadio(x, 2, 4, 0, 1, 3);
        // At SITE 0 one that has both gives way, so the one that has SITE 1 alone may stay.
        TrunkRadio y = Check.told("c1 2;a9;r0 3 1;r1 3 0;r1 1 0;r1 2 0;r0 2 0;");
        y.presses(0, 0);
        y.ticks(1);
        y.presses(2, 0);
        y.ticks(1);
        Check.dueRadio(y, 0, 4, 1, 0, 3);
        Check.dueRadio(y, 2, 4, 0, 0, 2);
        y.presses(3, 1);
        Check.due("two TALK", y.ticks(1), 2);
        Check.dueRadio(y, 0, 0, 0, 0, 0);
        Check.dueRadio(y, 2, 4, 1, 0, 2);
        Check.dueRadio(y, 3, 4, 0, 1, 3);
    }

    private static void nothingIsTakenWhereNotAllCanBe() {
        TrunkRadio x = Check.told("c1 1;a9;r0 0 0;r1 1 0;r0 2 0;r1 2 0;");
        x.presses(0, 0);
        x.presses(1, 1);
        x.ticks(1);
        x.presses(2, 1);
        Check.due("both go on", x.ticks(1), 2);
        Check.dueRadio(x, 0, 4, 1, 0, 1);
        Check.dueRadio(x, 1, 4, 1, 1, 2);
        Check.dueRadio(x, 2, 3, 1, 1, 0);
        TrunkRadio z = Check.told("c1 1;a9;r0 0 0;r1 1 0;r0 2 0;r1 2 0;");
        z.presses(0, 1);
        z.presses(1, 0);
        z.ticks(1);
        z.presses(3, 1);
        Check.due("both go on, the other way round", z.ticks(1), 2);
        Check.dueRadio(z, 0, 4, 1, 1, 1);
        Check.dueRadio(z, 1, 4, 1, 0, 2);
        Check.dueRadio(z, 3, 3, 1, 1, 0);
        TrunkRadio y = Check.told("c1 1;a9;r0 0 0;r1 1 0;r0 2 3;r1 2 0;");
        y.presses(0, 0);
        y.ticks(1);
        y.presses(2, 0);
        Check.due("who is not URGENT takes nothing", y.ticks(1), 1);
        Check.dueRadio(y, 2, 3, 1, 0, 0);
    }

    private static void oneGivesUp() {
        TrunkRadio x = Check.told("c1 1;a9;w3;r0 0 0;r0 1 0;");
        x.presses(0, 1);
        x.ticks(1);
        x.presses(1, 0);
        x.ticks(3);
        Check.dueRadio(x, 1, 3, 3, 0, 0);
        Check.due("none gave up", x.count(6), 0);
        x.ticks(1);
        Check.dueRadio(x, 1, 0, 0, 0, 0);
        Check.due("GIVEN UP", x.count(6), 1);
        Check.due("that is no CUT", x.count(5), 0);
        Check.due("BEGAN", x.count(4), 1);
        TrunkRadio y = Check.told("c1 1;a9;w1;r0 0 0;r0 1 0;");
        y.presses(1, 0);
        y.ticks(1);
        y.presses(0, 1);
        y.ticks(1);
        Check.due("0 takes over", y.talker(0), 0);
        y.presses(1, 1);
        y.ticks(2);
        Check.due("an URGENT one gives up, too", y.count(6), 1);
        y.releases(0);
        y.presses(1, 1);
        y.ticks(1);
        y.presses(0, 0);
        y.ticks(2);
        Check.due("so does the lowest", y.count(6), 2);
        Check.dueRadio(y, 0, 0, 0, 0, 0);
    }
}
