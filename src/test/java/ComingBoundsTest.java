/** What comes, and which RANK: 60 TICKS, 20 TICKS, 1 .. 3 CHANNELS, x 0 .. 10, at their bounds. */
public final class ComingBoundsTest {
    private static final int NONE = TrunkRadio.NONE;
    /** Of the SITE that has LOST its CONTROL each is SOFT for 9 TICKS, and the next one in the TICK behind that. */
    private static final String CHAIN = "c1 1;a9;r0 0 0;r0 1 0;r0 2 0;r0 3 0;r0 4 0;r0 5 0;r0 0 0;";

    public static void main(String[] args) {
        soonUpToSixty();
        soonFromNow();
        begunUpToSixty();
        waveUpToSixty();
        waveFromNow();
        fully();
        fullyByAllChannels();
        gave();
        gaveAsLateAsCanBe();
        enoughFromOneToThree();
        enoughByWhatIsTaken();
        enoughOfWhoWaits();
        oddsByTenths();
        oddsOfSeven();
        oddsUpToTwenty();
        oddsOfOneWhoIsNotIdle();
        seenUpToTwenty();
        rankBits();
        lookUpToTwenty();
        lookForTheSmallestGreaterPart();
        lookWithOneOrNone();
        Check.end();
    }

    /** All seven are SENT where CONTROL is LOST; the first is SOFT in the next TICK. */
    private static TrunkRadio chain() {
        TrunkRadio x = Check.told(CHAIN);
        x.controls(0, 0);
        x.ticks(1);
        for (int radio = 0; radio < 7; radio++) {
            x.presses(radio, 0);
        }
        return x;
    }

    // "SOON of a RADIO: behind how many TICKS (0 .. 60) it is TALKING or SOFT first; NONE."
    private static void soonUpToSixty() {
        TrunkRadio x = chain();
        for (int radio = 0; radio < 6; radio++) {
            Check.due("soon(" + radio + ")", x.soon(radio), 1 + 10 * radio);
        }
        Check.due("soon(6) behind 61", x.soon(6), NONE);
        x.ticks(1);
        Check.due("soon(0) NOW", x.soon(0), 0);
        Check.due("soon(1)", x.soon(1), 10);
        Check.due("soon(6) behind 60", x.soon(6), 60);
        x.ticks(1);
        Check.due("soon(6) behind 59", x.soon(6), 59);
        x.undo();
        x.undo();
        Check.due("soon(6) behind 61 again", x.soon(6), NONE);
        for (int left = 61; left > 0; left--) {
            x.ticks(1);
            Check.due("soon(6)", x.soon(6), left - 1);
        }
        x.ticks(9);
        Check.due("soon(6) of one who is CUT", x.soon(6), NONE);
    }

    private static void soonFromNow() {
        TrunkRadio x = Check.told("a1;r0 0 0;r0 1 0;");
        Check.due("of an IDLE one", x.soon(0), NONE);
        x.presses(0, 0);
        Check.due("of one who is SENT", x.soon(0), 1);
        x.ticks(1);
        Check.due("of one who TALKS, for the last TICK", x.soon(0), 0);
        x.ticks(1);
        Check.due("of one who was CUT", x.soon(0), NONE);
        TrunkRadio y = Check.told("r0 0 0;r0 0 0;r0 0 0;r0 0 0;");
        y.presses(0, 0);
        y.presses(3, 0);
        Check.due("of two who collide for ever", y.soon(0), NONE);
        Check.due("of two who collide for ever", y.soon(3), NONE);
    }

    // "BEGUN in n TICKS: how many times a RADIO becomes TALKING or SOFT.", n 1 .. 60
    private static void begunUpToSixty() {
        TrunkRadio x = chain();
        for (int n = 1; n <= 60; n++) {
            Check.due("BEGUN in " + n, x.within(n, 2), (n + 9) / 10);
        }
        x.ticks(1);
        for (int n = 1; n <= 60; n++) {
            Check.due("BEGUN in " + n + " from NOW", x.within(n, 2), n / 10);
        }
        TrunkRadio y = Check.told("c3 3;a1;r0 0 0;r0 1 0;r1 2 0;");
        y.presses(0, 0);
        y.presses(2, 0);
        Check.due("two in one TICK", y.within(1, 2), 2);
        y.ticks(1);
        Check.due("who TALKS does not begin", y.within(60, 2), 0);
    }

    // "WAVE .. behind how many TICKS (0 .. 60) first none is SENT, BACKED, QUEUED; NONE."
    private static void waveUpToSixty() {
        TrunkRadio x = chain();
        Check.due("wave behind 61", x.wave(0, 0), NONE);
        Check.due("wave of all behind 61", x.wave(127, 0), NONE);
        x.ticks(1);
        Check.due("wave behind 60", x.wave(0, 0), 60);
        x.ticks(1);
        Check.due("wave behind 59", x.wave(127, 0), 59);
        // The same, PRESSED by the wave itself; 0 is SOFT already.
        TrunkRadio y = Check.told(CHAIN);
        y.controls(0, 0);
        y.ticks(1);
        Check.due("of all, behind 61", y.wave(127, 0), NONE);
        Check.due("of six, behind 51", y.wave(63, 0), 51);
        Check.due("of one", y.wave(64, 0), 1);
        y.presses(0, 0);
        y.ticks(1);
        Check.due("of the others, behind 60", y.wave(126, 0), 60);
        Check.due("of all, behind 60", y.wave(127, 0), 60);
        Check.due("nothing is PRESSED by that", y.radio(6, 3), 0);
    }

    private static void waveFromNow() {
        TrunkRadio x = Check.told("c1 1;a2;w1;r0 0 0;r0 1 0;r0 2 0;r1 3 0;");
        Check.due("of none", x.wave(0, 0), 0);
        Check.due("of one", x.wave(1, 0), 1);
        Check.due("of one at each SITE", x.wave(9, 0), 1);
        // 0 TALKS in TICK 3; 1 is BACKED 2 in TICK 1, SENT in 3, QUEUED in 4, and TALKS in 5, as 0 is CUT.
        Check.due("of two", x.wave(3, 0), 5);
        x.presses(0, 0);
        x.ticks(1);
        Check.due("of one who TALKS", x.wave(1, 0), 0);
        x.presses(1, 1);
        x.ticks(1);
        dueOn("1 took over", x, 1);
        x.presses(2, 0);
        // 2 is QUEUED in the next TICK, and TALKS in the one behind, as 1 is CUT.
        Check.due("one who waits NOW, in the empty set", x.wave(0, 0), 2);
        x.ticks(1);
        Check.due("one who is QUEUED NOW", x.wave(0, 0), 1);
        Check.due("of one who is QUEUED", x.wave(4, 0), 1);
    }

    private static void dueOn(String name, TrunkRadio x, int radio) {
        Check.due(name, x.radio(radio, 3), 4);
    }

    // "FULLY of a SITE, n TICKS (1 .. 60): behind how many of them no CHANNEL of it is free."
    private static void fully() {
        for (int air = 1; air <= 9; air++) {
            for (int site = 0; site < 2; site++) {
                TrunkRadio x = Check.told("c1 1;a" + air + ";r" + site + " 0 0;");
                x.presses(0, 0);
                for (int n = 1; n <= 60; n++) {
                    Check.due("FULLY in " + n + " by AIR " + air, x.within(n, site), Math.min(n, air));
                    Check.due("FULLY of the other", x.within(n, 1 - site), 0);
                }
                x.ticks(air);
                Check.due("full NOW", x.site(site, 1), 0);
                Check.due("but not behind 1 TICK", x.within(1, site), 0);
                Check.due("nor behind 60", x.within(60, site), 0);
            }
        }
    }

    private static void fullyByAllChannels() {
        for (int channels = 1; channels <= 3; channels++) {
            TrunkRadio x = Check.told("c" + channels + " 3;a9;r0 0 0;r0 1 0;r0 2 0;r1 0 0;");
            x.presses(0, 0);
            x.ticks(1);
            x.presses(1, 0);
            x.ticks(1);
            x.presses(2, 0);
            // 0 is CUT in the eighth TICK. By 1 CHANNEL 1 TALKS then, to the 16th, and 2 gives up; by 2 CHANNELS 2 TALKS
            // then, and 1 is CUT in the ninth; by 3 CHANNELS none takes the place of 0.
            int[] due = {16, 8, 7};
            Check.due("FULLY in 7 of " + channels, x.within(7, 0), 7);
            Check.due("FULLY in 60 of " + channels, x.within(60, 0), due[channels - 1]);
            Check.due("FULLY of SITE 1, where one is taken", x.within(60, 1), 0);
        }
    }

    // "GAVE in n TICKS: how many times one is GIVEN UP."
    private static void gave() {
        for (int patience = 1; patience <= 7; patience++) {
            TrunkRadio x = Check.told("c1 1;a9;w" + patience + ";r0 0 0;r0 1 0;");
            x.presses(0, 1);
            x.ticks(1);
            x.presses(1, 0);
            for (int left = patience + 1; left >= 1; left--) {
                for (int n = 1; n < left; n++) {
                    Check.due("GAVE in " + n, x.within(n, 3), 0);
                }
                Check.due("GAVE in " + left, x.within(left, 3), 1);
                Check.due("GAVE in 60", x.within(60, 3), 1);
                x.ticks(1);
            }
            Check.due("who gave up ahead of NOW", x.within(60, 3), 0);
            Check.due("GIVEN UP", x.count(6), 1);
        }
    }

    /** Three URGENT ones TALK one behind the other, for 27 TICKS; 3 waits for 20 of them. */
    private static void gaveAsLateAsCanBe() {
        TrunkRadio x = Check.told("c1 1;a9;w20;r0 0 0;r0 1 0;r0 2 0;r0 3 0;");
        for (int radio = 0; radio < 3; radio++) {
            x.presses(radio, 1);
            x.ticks(1);
        }
        x.presses(3, 0);
        Check.due("GAVE in 20", x.within(20, 3), 0);
        Check.due("GAVE in 21", x.within(21, 3), 1);
        Check.due("GAVE in 60", x.within(60, 3), 1);
        Check.due("soon(3)", x.soon(3), NONE);
        Check.due("ENOUGH", x.wave(0, 1), 2);
        Check.due("wave", x.wave(0, 0), 21);
    }

    // "ENOUGH of a set: the fewest CHANNELS (1 .. 3, the same at both SITES, from NOW on ..); NONE."
    private static void enoughFromOneToThree() {
        for (int told = 1; told <= 3; told++) {
            TrunkRadio x = Check.told("c" + told + " " + told + ";a9;w1;r0 0 0;r0 1 0;r0 2 0;r1 3 0;");
            int[] due = {1, 1, 1, 2, 1, 2, 2, 3};
            for (int set = 0; set < 8; set++) {
                Check.due("ENOUGH of " + set, x.wave(set, 1), due[set]);
                Check.due("ENOUGH with one at the other SITE", x.wave(set | 8, 1), due[set]);
            }
            Check.due("CHANNELS are as they were", x.site(0, 0), told);
            // Two of one GROUP: the second gives up by any CHANNELS.
            TrunkRadio y = Check.told("c" + told + " " + told + ";a9;w1;r0 0 0;r0 0 0;");
            Check.due("ENOUGH of one", y.wave(1, 1), 1);
            Check.due("ENOUGH of two of one GROUP", y.wave(3, 1), NONE);
        }
        // By PATIENCE 1 and AIR 2: who waits for 1 TICK stays, for 2 gives up.
        TrunkRadio x = Check.told("c1 1;a2;w1;r0 0 0;r0 1 0;");
        Check.due("it waits for 1 TICK", x.wave(3, 1), 1);
        TrunkRadio y = Check.told("c1 1;a3;w1;r0 0 0;r0 1 0;");
        Check.due("it waits for 2 TICKS", y.wave(3, 1), 2);
        TrunkRadio z = Check.told("c1 1;a3;w2;r0 0 0;r0 1 0;");
        Check.due("it waits for 2 TICKS by PATIENCE 2", z.wave(3, 1), 1);
    }

    // "at a SITE where more are taken NOW as many as are taken"
    private static void enoughByWhatIsTaken() {
        for (int taken = 0; taken <= 3; taken++) {
            TrunkRadio x = Check.told("c3 3;a9;w1;r0 0 0;r0 1 0;r0 2 0;r0 3 0;r1 4 0;r1 5 0;");
            for (int radio = 0; radio < taken; radio++) {
                x.presses(radio, 0);
                x.ticks(1);
            }
            Check.due("taken", 3 - x.site(0, 1), taken);
            Check.due("none more by " + taken, x.wave(0, 1), 1);
            Check.due("one more by " + taken, x.wave(8, 1), taken < 3 ? taken + 1 : NONE);
            Check.due("one at the other SITE by " + taken, x.wave(16, 1), 1);
            Check.due("two at the other SITE by " + taken, x.wave(48, 1), 2);
            Check.due("those who TALK are not PRESSED", x.wave((1 << taken) - 1, 1), 1);
        }
        // What is taken is counted at each SITE for itself, by as many CHANNELS as that SITE has NOW.
        for (int site = 0; site < 2; site++) {
            String own = "r" + site + " ";
            String other = "r" + (1 - site) + " ";
            TrunkRadio x = Check.told((site == 0 ? "c3 1;" : "c1 3;") + "a9;w1;" + own + "0 0;" + own + "1 0;" + own + "2 0;"
                + other + "3 0;" + other + "4 0;");
            Check.due("two where three could be", x.wave(3, 1), 2);
            Check.due("two where one could be", x.wave(24, 1), 2);
            for (int radio = 0; radio < 2; radio++) {
                x.presses(radio, 0);
                x.ticks(1);
            }
            Check.due("none more", x.wave(0, 1), 1);
            Check.due("one more where two of three are taken", x.wave(4, 1), 3);
            Check.due("two where none of one is taken", x.wave(24, 1), 2);
            Check.due("one where none of one is taken", x.wave(8, 1), 1);
        }
    }

    private static void enoughOfWhoWaits() {
        TrunkRadio x = Check.told("c1 1;a9;w2;r0 0 0;r0 1 0;");
        x.presses(0, 0);
        x.ticks(1);
        x.presses(1, 0);
        x.ticks(2);
        Check.due("1 is QUEUED, and would give up in the next TICK", x.wave(0, 1), 2);
        x.ticks(1);
        Check.due("it gave up ahead of NOW", x.wave(0, 1), 1);
        Check.due("PRESSED again it would once more", x.wave(2, 1), 2);
        // By URGENT ones: 1 gives up by one CHANNEL, though it is not of the set.
        TrunkRadio y = Check.told("c2 2;a9;w1;r0 0 0;r0 1 0;");
        y.presses(0, 1);
        y.presses(1, 1);
        Check.due("both are SENT, URGENT", y.wave(0, 1), 2);
    }

    private static void dueOdds(TrunkRadio x, int tenths, int radio, int n, int upper, int lower) {
        String call = "odds(" + tenths + ", " + radio + ", " + n + ", ";
        Check.due(call + "0)", x.odds(tenths, radio, n, 0), upper);
        Check.due(call + "1)", x.odds(tenths, radio, n, 1), lower);
    }

    // "ODDS by x (0 .. 10)": "in least terms"
    private static void oddsByTenths() {
        TrunkRadio x = Check.told("c1 1;a3;w20;r0 0 0;r0 1 0;");
        int[][] alone = {{1, 1}, {9, 10}, {4, 5}, {7, 10}, {3, 5}, {1, 2}, {2, 5}, {3, 10}, {1, 5}, {1, 10}, {0, 1}};
        for (int tenths = 0; tenths <= 10; tenths++) {
            dueOdds(x, tenths, 0, 1, alone[tenths][0], alone[tenths][1]);
            dueOdds(x, tenths, 0, 2, alone[tenths][0], alone[tenths][1]);
            dueOdds(x, tenths, 0, 3, 1, 1);
        }
        TrunkRadio y = Check.told("c1 1;r0 0 0;r1 1 0;");
        for (int tenths = 0; tenths <= 10; tenths++) {
            dueOdds(y, tenths, 0, 1, 1, 1);
        }
        Check.due("nothing is PRESSED by that", x.radio(0, 3) + x.radio(1, 3), 0);
    }

    private static void oddsOfSeven() {
        TrunkRadio x = Check.told("c3 3;r0 0 0;r0 1 0;r0 2 0;r0 3 0;r0 4 0;r0 5 0;r0 0 0;");
        int[][] due = {{1, 1}, {531441, 1000000}, {4096, 15625}, {117649, 1000000}, {729, 15625}, {1, 64}, {64, 15625},
            {729, 1000000}, {1, 15625}, {1, 1000000}, {0, 1}};
        for (int tenths = 0; tenths <= 10; tenths++) {
            dueOdds(x, tenths, 0, 1, due[tenths][0], due[tenths][1]);
            dueOdds(x, tenths, 6, 1, due[tenths][0], due[tenths][1]);
        }
        // 6 TALKS: it is not PRESSED, and five others are IDLE.
        x.presses(6, 0);
        x.ticks(1);
        dueOdds(x, 9, 1, 1, 1, 100000);
        dueOdds(x, 10, 1, 1, 0, 1);
        dueOdds(x, 0, 1, 1, 1, 1);
        // Whichever number it has that is not IDLE.
        for (int talks = 0; talks < 7; talks++) {
            TrunkRadio y = Check.told("c3 3;r0 0 0;r0 1 0;r0 2 0;r0 3 0;r0 4 0;r0 5 0;r0 0 0;");
            y.presses(talks, 0);
            y.ticks(1);
            for (int radio = 1; radio < 6; radio++) {
                if (radio != talks) {
                    dueOdds(y, 9, radio, 1, 1, 100000);
                }
            }
        }
    }

    // "n TICKS (1 .. 20)": "that it is TALKING or SOFT behind any of them"
    private static void oddsUpToTwenty() {
        TrunkRadio x = chain();
        dueOdds(x, 5, 0, 1, 1, 1);
        dueOdds(x, 5, 1, 10, 0, 1);
        dueOdds(x, 5, 1, 11, 1, 1);
        dueOdds(x, 5, 2, 20, 0, 1);
        x.ticks(1);
        dueOdds(x, 5, 2, 19, 0, 1);
        dueOdds(x, 5, 2, 20, 1, 1);
        x.ticks(1);
        dueOdds(x, 5, 2, 18, 0, 1);
        dueOdds(x, 5, 2, 19, 1, 1);
        TrunkRadio y = Check.told("a1;r0 0 0;");
        dueOdds(y, 5, 0, 1, 1, 1);
        dueOdds(y, 5, 0, 20, 1, 1);
    }

    private static void oddsOfOneWhoIsNotIdle() {
        TrunkRadio x = Check.told("a2;r0 0 0;r0 1 0;");
        x.presses(0, 0);
        x.ticks(1);
        dueOdds(x, 5, 0, 1, 1, 1);
        x.ticks(1);
        dueOn("it TALKS for the last TICK", x, 0);
        dueOdds(x, 5, 0, 1, 0, 1);
        dueOdds(x, 5, 0, 20, 0, 1);
        x.ticks(1);
        dueOdds(x, 0, 0, 1, 1, 1);
        x.presses(1, 0);
        dueOdds(x, 0, 0, 1, 0, 1);
        dueOdds(x, 0, 0, 2, 0, 1);
        dueOdds(x, 0, 0, 3, 1, 1);
        TrunkRadio y = softForTwo();
        dueOdds(y, 5, 0, 1, 1, 1);
        dueOdds(y, 5, 0, 20, 1, 1);
        y.ticks(1);
        Check.due("it is SOFT for the last TICK", y.radio(0, 3), 5);
        dueOdds(y, 5, 0, 1, 0, 1);
        dueOdds(y, 5, 0, 20, 0, 1);
    }

    /** 0 is SOFT NOW and behind the next TICK; behind the one that follows it is IDLE. */
    private static TrunkRadio softForTwo() {
        TrunkRadio x = Check.told("a2;r0 0 0;r0 1 0;");
        x.controls(0, 0);
        x.presses(0, 0);
        x.ticks(2);
        Check.due("it is SOFT", x.radio(0, 3), 5);
        return x;
    }

    /**
     * 0 TALKS, 1 and 2 wait by RANK 3; 3 (RANK not known) and 4 (RANK 2) are SENT at TICK 7. 0 is CUT in TICK 10, 1 in
     * 19, 2 in 28. 3 and 4 collide in TICK 8, 3 is heard in 10, 4 in 11: in TICK 28 3 stands by 4 RANK + 18, 4 by 25.
     */
    private static TrunkRadio farPart() {
        TrunkRadio x = Check.told("c1 1;a9;w20;r0 0 0;r0 1 3;r0 2 3;r0 3 0;r0 4 2;");
        x.presses(0, 0);
        x.ticks(1);
        x.presses(1, 0);
        x.ticks(1);
        x.presses(2, 0);
        x.ticks(5);
        x.presses(3, 0);
        x.presses(4, 0);
        return x;
    }

    // "behind n TICKS (1 .. 20) from NOW (1), or was not (0)"
    private static void seenUpToTwenty() {
        TrunkRadio x = farPart();
        Check.due("TICK", x.count(3), 7);
        for (int n = 1; n <= 20; n++) {
            x.forget();
            x.sees(n, 1);
            Check.due("nothing yet behind " + n, x.ranks(3), 0);
            x.forget();
            x.sees(n, 0);
            Check.due("silent behind " + n, x.ranks(3), 15);
        }
        x.ticks(1);
        x.forget();
        x.sees(20, 1);
        Check.due("it talked behind 20", x.ranks(3), 12);
        x.forget();
        x.sees(20, 0);
        Check.due("it did not behind 20", x.ranks(3), 3);
        x.sees(19, 0);
        Check.due("nor behind 19", x.ranks(3), 3);
        x.sees(19, 1);
        Check.due("both can't be", x.ranks(3), 0);
        TrunkRadio y = Check.told("a1;r0 0 0;");
        y.presses(0, 0);
        y.sees(1, 1);
        Check.due("behind 1", y.ranks(0), 15);
        y.sees(2, 0);
        Check.due("and not behind 2", y.ranks(0), 15);
        y.sees(2, 1);
        Check.due("that can't be", y.ranks(0), 0);
        TrunkRadio z = Check.told("a1;r0 0 0;");
        z.presses(0, 0);
        z.ticks(1);
        z.sees(1, 1);
        Check.due("who TALKS NOW, and is CUT in the next TICK", z.ranks(0), 0);
        TrunkRadio v = softForTwo();
        v.sees(1, 1);
        v.sees(2, 0);
        Check.due("who is SOFT NOW, behind 1, and is IDLE behind 2", v.ranks(0), 15);
        v.sees(2, 1);
        Check.due("that can't be", v.ranks(0), 0);
        // 0 and 3 collide for ever: a look far ahead has an end, too.
        TrunkRadio u = Check.told("r0 0 0;r0 0 0;r0 0 0;r0 0 0;");
        u.presses(0, 0);
        u.presses(3, 0);
        Check.due("look(0) of two who collide for ever", u.look(0), 1);
        u.sees(20, 0);
        Check.due("silent behind 20", u.ranks(3), 15);
        u.sees(20, 1);
        Check.due("that can't be", u.ranks(3), 0);
    }

    // "RANKS of a RADIO (bits) by which all that was SEEN is so", by RANK 0 .. 3
    private static void rankBits() {
        // 1 waits with 4 RANK + 1; 2 with 1 + 4 r: by a RANK as that of 1, or lower, 1, the lower number, is first.
        for (int rank = 0; rank <= 3; rank++) {
            for (int own = 0; own <= 3; own++) {
                TrunkRadio x = Check.told("c1 1;a9;w20;r0 0 0;r0 1 " + rank + ";r1 2 " + own + ";r0 2 0;");
                x.presses(0, 1);
                x.ticks(1);
                x.presses(1, 0);
                x.presses(2, 0);
                x.ticks(8);
                // 2 NEEDS both SITES; 0 is CUT in the next TICK.
                Check.due("both are QUEUED", x.count(7), 2);
                x.sees(1, 1);
                Check.due("2 talked, 1 has RANK " + rank, x.ranks(2), 15 >> rank + 1 << rank + 1);
                x.forget();
                x.sees(1, 0);
                Check.due("2 did not, 1 has RANK " + rank, x.ranks(2), (1 << rank + 1) - 1);
                x.forget();
                Check.due("nothing SEEN", x.ranks(2), 15);
                Check.due("its RANK is as told", x.radio(2, 2), own);
            }
        }
    }

    // "LOOK of a RADIO: the TICKS (1 .. 20) behind which .. the greater part of these RANKS is smallest, of several the
    // fewest"
    private static void lookUpToTwenty() {
        TrunkRadio x = farPart();
        Check.due("they part behind 21: all are like, the fewest", x.look(3), 1);
        x.ticks(1);
        Check.due("they part behind 20", x.look(3), 20);
        x.ticks(1);
        Check.due("they part behind 19", x.look(3), 19);
        TrunkRadio y = farPart();
        y.ticks(12);
        Check.due("TICK", y.count(3), 19);
        y.ticks(8);
        Check.due("they part behind 1", y.look(3), 1);
        TrunkRadio z = Check.told("r0 0 0;");
        Check.due("an IDLE one: all are like, the fewest", z.look(0), 1);
    }

    /**
     * 0 TALKS for 1 TICK yet, then 1 (RANK 2), then 2 (RANK 1), each for 4 TICKS; 3 is ahead of 1 by RANK 3 alone, ahead
     * of 2 by RANKS 2 and 3: it TALKS behind 1 .. 4 TICKS by 3, behind 5 .. 8 by 2, behind 9 .. 12 by 0 and 1.
     */
    private static void lookForTheSmallestGreaterPart() {
        TrunkRadio x = Check.told("c1 1;a4;w20;r0 0 0;r0 1 2;r0 2 1;r0 3 3;");
        x.presses(0, 1);
        for (int radio = 1; radio <= 3; radio++) {
            x.ticks(1);
            x.presses(radio, 0);
        }
        x.ticks(1);
        Check.due("three wait", x.count(7), 3);
        Check.due("two and two behind 9, ahead of one and three behind 1", x.look(3), 9);
        x.sees(1, 0);
        Check.due("0, 1, 2 are left", x.ranks(3), 7);
        Check.due("one and two behind 5, two and one behind 9: the fewest", x.look(3), 5);
        x.sees(5, 0);
        Check.due("0, 1 are left", x.ranks(3), 3);
        Check.due("nothing parts these: the fewest", x.look(3), 1);
        x.forget();
        x.sees(9, 0);
        Check.due("2, 3 are left", x.ranks(3), 12);
        Check.due("one and one behind 1", x.look(3), 1);
        x.sees(8, 1);
        Check.due("2 is left", x.ranks(3), 4);
        Check.due("one can be at most", x.look(3), NONE);
        x.forget();
        x.sees(4, 1);
        Check.due("3 is left", x.ranks(3), 8);
        x.forget();
        x.sees(12, 1);
        Check.due("behind 12: 0, 1", x.ranks(3), 3);
        x.forget();
        x.sees(13, 1);
        Check.due("behind 13: none", x.ranks(3), 0);
    }

    // "NONE (one can be at most)"
    private static void lookWithOneOrNone() {
        // 1 waits by RANK 2: 2, that waits as long, is ahead by RANK 3 alone.
        TrunkRadio x = Check.told("c1 1;a9;w20;r0 0 0;r0 1 2;r1 2 0;r0 2 0;");
        x.presses(0, 1);
        x.ticks(1);
        x.presses(1, 0);
        x.presses(2, 0);
        x.ticks(8);
        Check.due("four", x.look(2), 1);
        x.sees(1, 0);
        Check.due("three are left", x.ranks(2), 7);
        Check.due("three", x.look(2), 1);
        x.forget();
        x.sees(1, 1);
        Check.due("one is left", x.ranks(2), 8);
        Check.due("one", x.look(2), NONE);
        x.sees(1, 0);
        Check.due("none is left", x.ranks(2), 0);
        Check.due("none", x.look(2), NONE);
        // By RANK 1: two are ahead, two are not.
        TrunkRadio y = Check.told("c1 1;a9;w20;r0 0 0;r0 1 1;r1 2 0;r0 2 0;");
        y.presses(0, 1);
        y.ticks(1);
        y.presses(1, 0);
        y.presses(2, 0);
        y.ticks(8);
        y.sees(1, 1);
        Check.due("two are left", y.ranks(2), 12);
        Check.due("two", y.look(2), 1);
    }
}
