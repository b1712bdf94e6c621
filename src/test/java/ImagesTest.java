/** Promises 23 to 25: keep, back, count. */
public final class ImagesTest {
    public static void main(String[] args) {
        wrongNumbers();
        anImageBringsAllBack();
        twoImages();
        nothingElseIsKept();
        counts();
        Check.end();
    }

    private static void wrongNumbers() {
        TrunkRadio x = Check.told("r0 0 0;");
        Check.due("keep(2)", x.keep(2), TrunkRadio.BAD);
        Check.due("keep(-1)", x.keep(-1), TrunkRadio.BAD);
        Check.due("back(2)", x.back(2), TrunkRadio.BAD);
        Check.due("back(-1)", x.back(-1), TrunkRadio.BAD);
        Check.due("back(0)", x.back(0), TrunkRadio.STATE);
        Check.due("back(1)", x.back(1), TrunkRadio.STATE);
        Check.due("keep(0)", x.keep(0), 0);
        Check.due("back(1) that was not kept", x.back(1), TrunkRadio.STATE);
        Check.due("back(0)", x.back(0), 0);
        Check.due("count(-1)", x.count(-1), TrunkRadio.BAD);
        Check.due("count(11)", x.count(11), TrunkRadio.BAD);
    }

    private static TrunkRadio busy() {
        TrunkRadio x = Check.told("c1 1;a3;w2;r0 0 0;r0 1 1;r1 2 2;r1 3 0;r0 4 0;");
        x.presses(0, 1);
        x.ticks(1);
        x.presses(1, 0);
        x.controls(1, 0);
        x.presses(2, 1);
        x.moves(3);
        x.ticks(2);
        return x;
    }

    private static void anImageBringsAllBack() {
        TrunkRadio x = busy();
        Check.due("keep(1)", x.keep(1), 3);
        Check.due("keep() is no act", x.count(10), 8);
        String before = Check.all(x);
        x.ticks(4);
        x.moves(3);
        x.controls(1, 1);
        x.controls(0, 0);
        x.presses(4, 1);
        x.ticks(3);
        Check.isTrue("all is another", !before.equals(Check.all(x)));
        Check.due("back(1)", x.back(1), 3);
        Check.due("nothing can be UNDONE", x.count(10), 0);
        Check.due("undo()", x.undo(), TrunkRadio.STATE);
        String after = Check.all(x);
        TrunkRadio y = busy();
        y.keep(0);
        y.back(0);
        Check.isTrue("as it was", after.equals(Check.all(y)));
        Check.due("TICK", x.count(3), 3);
        Check.due("BEGAN", x.count(4), 2);
        Check.due("SITE of 3", x.radio(3, 0), 0);
        Check.dueRadio(x, 0, 4, 2, 1, 1);
        Check.dueRadio(x, 1, 3, 2, 0, 0);
        Check.dueRadio(x, 2, 5, 0, 1, 0);
        Check.due("LOST", x.site(1, 3), 2);
        x.ticks(2);
        Check.due("back(1) again", x.back(1), 3);
        Check.isTrue("as it was again", after.equals(Check.all(x)));
    }

    private static void twoImages() {
        TrunkRadio x = Check.told("r0 0 0;");
        x.keep(0);
        x.ticks(5);
        x.keep(1);
        x.ticks(2);
        Check.due("back(0)", x.back(0), 0);
        Check.due("back(1)", x.back(1), 5);
        Check.due("keep(0) over another", x.keep(0), 5);
        x.ticks(1);
        Check.due("back(0)", x.back(0), 5);
        x.ticks(2);
        x.undo();
        Check.due("an IMAGE stays behind undo()", x.back(0), 5);
    }

    private static void nothingElseIsKept() {
        TrunkRadio x = Check.told("r0 0 0;");
        x.sees(1, 1);
        x.type('a');
        x.keep(0);
        x.sees(2, 1);
        x.type('b');
        x.ticks(1);
        x.back(0);
        Check.due("SEEN stays", x.count(8), 2);
        Check.due("the text stays", x.count(9), 2);
        Check.due("an act behind back()", x.ticks(1), 0);
        Check.due("it can be UNDONE", x.undo(), 0);
    }

    private static void counts() {
        TrunkRadio x = Check.told("c1 1;a2;w1;r0 0 0;r0 1 0;r0 2 0;r1 3 0;");
        x.presses(0, 1);
        x.ticks(1);
        x.presses(1, 1);
        x.presses(2, 0);
        x.ticks(1);
        x.sees(1, 0);
        x.type('x');
        int[] first = {4, 2, 1, 2, 1, 0, 0, 1, 1, 1, 5};
        for (int what = 0; what < first.length; what++) {
            Check.due("count(" + what + ")", x.count(what), first[what]);
        }
        // TICK 3: 0 is CUT, 1 TALKS. 2 (BACKED 3) is SENT in 5, QUEUED in 6.
        x.ticks(1);
        x.controls(1, 0);
        x.presses(3, 0);
        x.ticks(2);
        int[] second = {4, 2, 1, 5, 3, 2, 0, 0, 1, 1, 10};
        for (int what = 0; what < second.length; what++) {
            Check.due("count(" + what + ") then", x.count(what), second[what]);
        }
        x.presses(0, 1);
        x.ticks(1);
        Check.due("0 TALKS", x.talker(0), 0);
        Check.due("2 is BACKED again", x.radio(2, 3), 2);
        x.ticks(2);
        x.presses(0, 1);
        x.ticks(3);
        // 0 TALKS in TICK 9 and is CUT in 11, when 2 TALKS; 3 was CUT in 7.
        Check.due("BEGAN", x.count(4), 6);
        Check.due("CUT", x.count(5), 5);
        Check.due("GIVEN UP", x.count(6), 0);
    }
}
