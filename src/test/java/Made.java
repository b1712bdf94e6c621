/** Objects in states that the tests of bounds share. */
final class Made {
    static final String SEVEN = "c1 2;a9;w20;r0 0 0;r0 1 1;r0 2 2;r0 3 3;r1 4 0;r1 5 1;r1 0 2;";

    private Made() {
    }

    static TrunkRadio fresh() {
        return new TrunkRadio();
    }

    static TrunkRadio one() {
        return Check.told("r0 0 0;");
    }

    /**
     * Seven RADIOS: 0 TALKS, 1 is QUEUED, 2 and 3 are BACKED, 4 is SOFT, 5 is SENT (URGENT), 6 is IDLE; SITE 1 has
     * LOST its CONTROL; more than 12 acts were done, IMAGE 0 is kept, two are SEEN, a text is told.
     */
    static TrunkRadio busy() {
        TrunkRadio x = Check.told(SEVEN);
        x.moves(6);
        x.moves(6);
        x.controls(1, 0);
        x.presses(4, 0);
        x.ticks(2);
        x.presses(0, 0);
        x.ticks(1);
        x.keep(0);
        x.presses(1, 0);
        x.ticks(1);
        x.presses(2, 0);
        x.presses(3, 0);
        x.ticks(1);
        x.presses(5, 1);
        x.sees(9, 1);
        x.sees(2, 0);
        Check.type(x, "c3 3;a3;r0 1 2;r1 5 0;");
        return x;
    }

    /** All that can be full is full, but for TICK, which is 997: 80 letters, 6 SEEN, 12 acts, both IMAGES, LOST 99. */
    static TrunkRadio brim() {
        TrunkRadio x = Check.told("c1 1;a9;w20;r0 0 0;r0 1 3;r1 2 1;");
        x.controls(1, 0);
        x.keep(1);
        for (int i = 0; i < 82; i++) {
            x.ticks(12);
        }
        x.keep(0);
        x.ticks(11);
        x.presses(0, 0);
        x.ticks(1);
        x.presses(1, 0);
        x.ticks(1);
        for (int n = 1; n <= 6; n++) {
            x.sees(2 * n + 7, n % 2);
        }
        Check.type(x, "r1 1 1;".repeat(7) + " ".repeat(20) + "c3 2;a1;w1;");
        return x;
    }
}
