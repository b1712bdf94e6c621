/** Promises 11 to 14: radio, site, talker, queue. */
public final class ThingsTest {
    public static void main(String[] args) {
        radio();
        site();
        talker();
        queue();
        Check.end();
    }

    private static void radio() {
        TrunkRadio x = Check.told("c1 2;a5;r0 5 3;r1 4 2;r1 5 1;r0 3 0;");
        int[][] told = {{0, 5, 3}, {1, 4, 2}, {1, 5, 1}, {0, 3, 0}};
        for (int radio = 0; radio < 4; radio++) {
            for (int what = 0; what < 3; what++) {
                Check.due("radio(" + radio + ", " + what + ")", x.radio(radio, what), told[radio][what]);
            }
            Check.dueRadio(x, radio, 0, 0, 0, 0);
        }
        Check.due("radio(4, 0)", x.radio(4, 0), TrunkRadio.BAD);
        Check.due("radio(-1, 0)", x.radio(-1, 0), TrunkRadio.BAD);
        Check.due("radio(7, 0)", x.radio(7, 0), TrunkRadio.BAD);
        Check.due("radio(0, -1)", x.radio(0, -1), TrunkRadio.BAD);
        Check.due("radio(0, 7)", x.radio(0, 7), TrunkRadio.BAD);
        x.presses(0, 1);
        Check.dueRadio(x, 0, 1, 0, 1, 0);
        x.ticks(1);
        Check.dueRadio(x, 0, 4, 0, 1, 3);
        x.presses(3, 0);
        x.presses(1, 0);
        x.ticks(2);
        Check.dueRadio(x, 0, 4, 2, 1, 3);
        Check.dueRadio(x, 1, 4, 1, 0, 2);
        Check.dueRadio(x, 3, 3, 2, 0, 0);
        x.releases(0);
        Check.dueRadio(x, 0, 0, 0, 0, 0);
    }

    private static void site() {
        TrunkRadio x = Check.told("c3 1;r0 0 0;r1 0 0;r0 1 0;");
        Check.due("site(2, 0)", x.site(2, 0), TrunkRadio.BAD);
        Check.due("site(-1, 0)", x.site(-1, 0), TrunkRadio.BAD);
        Check.due("site(0, 4)", x.site(0, 4), TrunkRadio.BAD);
        Check.due("site(0, -1)", x.site(0, -1), TrunkRadio.BAD);
        x.presses(0, 0);
        x.ticks(1);
        x.presses(2, 0);
        x.ticks(1);
        x.controls(1, 0);
        x.ticks(1);
        int[][] due = {{3, 1, 1, 0}, {1, 0, 0, 1}};
        for (int site = 0; site < 2; site++) {
            for (int what = 0; what < 4; what++) {
                Check.due("site(" + site + ", " + what + ")", x.site(site, what), due[site][what]);
            }
        }
    }

    private static void talker() {
        TrunkRadio x = Check.told("c2 2;r0 0 0;r0 5 0;r1 5 0;r1 4 0;");
        Check.due("talker(6)", x.talker(6), TrunkRadio.BAD);
        Check.due("talker(-1)", x.talker(-1), TrunkRadio.BAD);
        Check.due("talker(0)", x.talker(0), TrunkRadio.NONE);
        x.presses(2, 0);
        x.presses(0, 0);
        x.ticks(1);
        int[] due = {0, TrunkRadio.NONE, TrunkRadio.NONE, TrunkRadio.NONE, TrunkRadio.NONE, 2};
        for (int group = 0; group < 6; group++) {
            Check.due("talker(" + group + ")", x.talker(group), due[group]);
        }
        x.controls(1, 0);
        x.presses(3, 0);
        x.ticks(2);
        Check.due("3 is SOFT", x.radio(3, 3), 5);
        Check.due("a SOFT one is not the talker", x.talker(4), TrunkRadio.NONE);
    }

    private static void queue() {
        TrunkRadio x = Check.told("c1 1;a9;w20;r0 0 0;r0 1 0;r0 2 3;r0 3 0;");
        Check.due("queue(-1)", x.queue(-1), TrunkRadio.BAD);
        Check.due("queue(MIN)", x.queue(Integer.MIN_VALUE), TrunkRadio.BAD);
        Check.due("queue(0)", x.queue(0), TrunkRadio.NONE);
        x.presses(0, 1);
        x.ticks(1);
        x.presses(1, 0);
        x.ticks(1);
        x.presses(2, 0);
        x.ticks(1);
        x.presses(3, 1);
        x.ticks(1);
        int[] due = {3, 2, 1, TrunkRadio.NONE, TrunkRadio.NONE, TrunkRadio.NONE, TrunkRadio.NONE, TrunkRadio.NONE};
        for (int k = 0; k < due.length; k++) {
            Check.due("queue(" + k + ")", x.queue(k), due[k]);
        }
        Check.due("queue(MAX)", x.queue(Integer.MAX_VALUE), TrunkRadio.NONE);
        Check.due("how many are QUEUED", x.count(7), 3);
    }
}
