/** Promises 19 to 22: sees, forget, ranks, look. */
public final class RankTest {
    public static void main(String[] args) {
        sees();
        ranksByWhatWasSeen();
        whereToLook();
        rankIsLookedAtFromNow();
        wrongNumbers();
        Check.end();
    }

    private static void sees() {
        TrunkRadio x = new TrunkRadio();
        Check.due("sees(0, 0)", x.sees(0, 0), TrunkRadio.BAD);
        Check.due("sees(21, 0)", x.sees(21, 0), TrunkRadio.BAD);
        Check.due("sees(1, 2)", x.sees(1, 2), TrunkRadio.BAD);
        Check.due("sees(1, -1)", x.sees(1, -1), TrunkRadio.BAD);
        Check.due("forget() of nothing", x.forget(), 0);
        Check.due("sees(20, 0)", x.sees(20, 0), 1);
        for (int n = 2; n <= 6; n++) {
            Check.due("sees(1, 1)", x.sees(1, 1), n);
        }
        Check.due("count(8)", x.count(8), 6);
        Check.due("a seventh", x.sees(1, 1), TrunkRadio.FULL);
        Check.due("a wrong seventh", x.sees(0, 1), TrunkRadio.BAD);
        Check.due("forget()", x.forget(), 6);
        Check.due("count(8)", x.count(8), 0);
        Check.due("forget() again", x.forget(), 0);
        Check.due("no act", x.count(10), 0);
    }

    /** 0 TALKS, 1 waits since 2 TICKS by rank 1, 2 waits since 1 TICK: by ranks 2 and 3 it is ahead. */
    private static TrunkRadio threeInLine() {
        TrunkRadio x = Check.told("c1 1;a3;w20;r0 0 0;r0 1 1;r0 2 3;");
        x.presses(0, 0);
        x.ticks(1);
        x.presses(1, 0);
        x.ticks(1);
        x.presses(2, 0);
        x.ticks(1);
        return x;
    }

    private static void ranksByWhatWasSeen() {
        TrunkRadio x = threeInLine();
        // 0 is CUT in 1 TICK. By ranks 2, 3: 2 TALKS behind 1, 2, 3 TICKS; by 0, 1: 1 does, and 2 behind 4, 5, 6.
        Check.due("nothing SEEN", x.ranks(2), 15);
        x.sees(1, 1);
        Check.due("it talked behind 1", x.ranks(2), 12);
        x.sees(3, 1);
        x.sees(4, 0);
        Check.due("and behind 3, not behind 4", x.ranks(2), 12);
        x.sees(3, 0);
        Check.due("that can't be", x.ranks(2), 0);
        x.forget();
        x.sees(1, 0);
        Check.due("it was silent behind 1", x.ranks(2), 3);
        x.sees(6, 1);
        x.sees(7, 0);
        Check.due("and talked behind 6", x.ranks(2), 3);
        Check.due("its RANK is still as told", x.radio(2, 2), 3);
        // 2 stands by 4 * 3 + 1; 1, that waited for 2 TICKS, is ahead of it by RANK 3 alone.
        x.forget();
        x.sees(1, 1);
        Check.due("of RADIO 1", x.ranks(1), 8);
        x.forget();
        x.sees(1, 0);
        Check.due("of RADIO 1, silent", x.ranks(1), 7);
        Check.due("of RADIO 0, that is CUT then", x.ranks(0), 15);
        x.forget();
        x.sees(1, 1);
        Check.due("of RADIO 0, that can't talk", x.ranks(0), 0);
    }

    private static void whereToLook() {
        TrunkRadio x = threeInLine();
        Check.due("two and two behind 1", x.look(2), 1);
        Check.due("one and three behind 1", x.look(1), 1);
        Check.due("all the same by each RANK: the fewest", x.look(0), 1);
        x.sees(1, 0);
        Check.due("nothing more to part: the fewest", x.look(2), 1);
        x.forget();
        x.sees(1, 1);
        Check.due("one is left", x.ranks(1), 8);
        Check.due("look(1) with one left", x.look(1), TrunkRadio.NONE);
        Check.due("look(0) with none left", x.look(0), TrunkRadio.NONE);
        // 0 TALKS yet for 2 TICKS: nothing parts behind 1 TICK.
        TrunkRadio y = Check.told("c1 1;a4;w20;r0 0 0;r0 1 1;r0 2 3;");
        y.presses(0, 0);
        y.ticks(1);
        y.presses(1, 0);
        y.ticks(1);
        y.presses(2, 0);
        y.ticks(1);
        Check.due("behind 2 TICKS", y.look(2), 2);
        // 0 TALKS yet for 2 TICKS, then 1, then 2; behind 20 TICKS 3 (by 4 RANK + 20) or 4 (by 27).
        TrunkRadio z = Check.told("c1 1;a9;w20;r0 0 0;r0 1 3;r0 2 3;r0 3 0;r0 4 2;");
        z.presses(0, 0);
        z.ticks(1);
        z.presses(1, 0);
        z.ticks(1);
        z.presses(2, 0);
        z.ticks(5);
        z.presses(3, 0);
        z.ticks(1);
        z.presses(4, 0);
        Check.due("behind 20 TICKS", z.look(3), 20);
        z.sees(20, 1);
        Check.due("it talked", z.ranks(3), 12);
        z.forget();
        z.sees(20, 0);
        Check.due("it was silent", z.ranks(3), 3);
    }

    private static void rankIsLookedAtFromNow() {
        TrunkRadio x = threeInLine();
        x.sees(1, 1);
        Check.due("ahead of the TICK", x.ranks(2), 12);
        x.ticks(1);
        Check.due("2 TALKS, and goes on by each RANK", x.ranks(2), 15);
        x.undo();
        Check.due("as it was", x.ranks(2), 12);
        x.keep(0);
        x.back(0);
        Check.due("SEEN stays behind back()", x.ranks(2), 12);
        TrunkRadio y = Check.told("r0 0 0;");
        y.controls(0, 0);
        y.presses(0, 0);
        y.sees(2, 1);
        y.sees(1, 0);
        Check.due("SOFT counts as well", y.ranks(0), 15);
    }

    private static void wrongNumbers() {
        TrunkRadio x = Check.told("r0 0 0;");
        Check.due("ranks(1)", x.ranks(1), TrunkRadio.BAD);
        Check.due("ranks(-1)", x.ranks(-1), TrunkRadio.BAD);
        Check.due("look(1)", x.look(1), TrunkRadio.BAD);
        Check.due("look(-1)", x.look(-1), TrunkRadio.BAD);
    }
}
