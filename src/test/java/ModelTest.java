import java.util.Random;

/** Runs of up to 512 calls, by seeds, on the program and on the Model: each answer must be the same. */
public final class ModelTest {
    private static final int RUNS = 3000;
    private static final int CALLS = 512;

    private final Random dice;
    private final TrunkRadio x = new TrunkRadio();
    private final Model m = new Model();
    private final int seed;
    private int calls;

    private ModelTest(int seed) {
        this.seed = seed;
        dice = new Random(seed);
    }

    public static void main(String[] args) {
        int runs = args.length > 0 ? Integer.parseInt(args[0]) : RUNS;
        for (int seed = 0; seed < runs; seed++) {
            new ModelTest(seed).run();
        }
        Check.end();
    }

    private void due(String call, int got, int want) {
        calls++;
        Check.due("seed " + seed + " call " + calls + " " + call, got, want);
    }

    private void run() {
        tell(randomNet());
        while (calls < CALLS - 90) {
            int kind = dice.nextInt(100);
            if (kind < 1) {
                tell(dice.nextBoolean() ? randomNet() : spoiled(randomNet()));
            } else if (kind < 60) {
                act();
            } else if (kind < 75) {
                ask();
            } else if (kind < 90) {
                foresee();
            } else {
                guess();
            }
        }
    }

    private String randomNet() {
        StringBuilder t = new StringBuilder();
        if (dice.nextInt(4) > 0) {
            t.append("c").append(1 + dice.nextInt(3)).append(' ').append(1 + dice.nextInt(3)).append(";");
        }
        if (dice.nextInt(4) > 0) {
            t.append("a").append(1 + dice.nextInt(9)).append(";");
        }
        if (dice.nextInt(4) > 0) {
            t.append("w").append(1 + dice.nextInt(dice.nextBoolean() ? 20 : 4)).append(";");
        }
        int radios = dice.nextInt(4) > 0 ? 5 + dice.nextInt(3) : dice.nextInt(8);
        int groups = 1 + dice.nextInt(6);
        for (int r = 0; r < radios; r++) {
            t.append("r").append(dice.nextInt(2)).append(' ').append(dice.nextInt(groups)).append(' ')
                .append(dice.nextInt(4)).append(";");
        }
        return t.toString();
    }

    private String spoiled(String text) {
        StringBuilder t = new StringBuilder(text);
        String letters = "cawr; 0123456789xC\t\n\u00ff";
        int times = 1 + dice.nextInt(3);
        for (int i = 0; i < times; i++) {
            int place = dice.nextInt(t.length() + 1);
            char letter = letters.charAt(dice.nextInt(letters.length()));
            if (dice.nextBoolean() || place == t.length()) {
                t.insert(place, letter);
            } else if (dice.nextBoolean()) {
                t.setCharAt(place, letter);
            } else {
                t.setLength(place);
            }
        }
        return t.toString();
    }

    private void tell(String text) {
        due("clear", x.clear(), m.clear());
        for (int i = 0; i < text.length(); i++) {
            due("type", x.type(text.charAt(i)), m.type(text.charAt(i)));
        }
        due("net of " + text, x.net(), m.net());
        due("count(9)", x.count(9), m.count(9));
    }

    /** Most often a number that is as told, at times one beyond. */
    private int upTo(int most) {
        if (dice.nextInt(40) > 0) {
            return dice.nextInt(most + 1);
        }
        int[] beyond = {-1, most + 1, Integer.MIN_VALUE, Integer.MAX_VALUE, -2, most + 2};
        return beyond[dice.nextInt(beyond.length)];
    }

    private int anyRadio() {
        return upTo(Math.max(0, m.count(0) - 1));
    }

    private void act() {
        int r = anyRadio();
        int bit = dice.nextInt(4) == 0 ? upTo(1) : 0;
        int site = upTo(1);
        int n = dice.nextInt(4) > 0 ? 1 : dice.nextInt(30) == 0 ? upTo(13) : 1 + dice.nextInt(4);
        int which = dice.nextInt(20);
        if (which < 8) {
            due("presses(" + r + ", " + bit + ")", x.presses(r, bit), m.presses(r, bit));
        } else if (which < 15) {
            due("ticks(" + n + ")", x.ticks(n), m.ticks(n));
        } else if (which < 16) {
            due("releases(" + r + ")", x.releases(r), m.releases(r));
        } else if (which < 17) {
            int is = dice.nextInt(3) > 0 ? 1 : 0;
            due("controls(" + site + ", " + is + ")", x.controls(site, is), m.controls(site, is));
        } else if (which < 18) {
            due("moves(" + r + ")", x.moves(r), m.moves(r));
        } else if (which < 19) {
            due("undo()", x.undo(), m.undo());
        } else if (dice.nextBoolean()) {
            due("keep(" + site + ")", x.keep(site), m.keep(site));
        } else {
            due("back(" + site + ")", x.back(site), m.back(site));
        }
        checkAll();
    }

    /** Looks at everything, but by a fresh count: these calls are free of the 512. */
    private void checkAll() {
        for (int r = 0; r < m.count(0); r++) {
            for (int what = 0; what < 7; what++) {
                Check.due("seed " + seed + " behind call " + calls + " radio(" + r + ", " + what + ")",
                    x.radio(r, what), m.radio(r, what));
            }
        }
        for (int what = 0; what <= 10; what++) {
            Check.due("seed " + seed + " behind call " + calls + " count(" + what + ")", x.count(what), m.count(what));
        }
    }

    private void ask() {
        int r = anyRadio();
        int what = upTo(6);
        int site = upTo(1);
        due("radio(" + r + ", " + what + ")", x.radio(r, what), m.radio(r, what));
        what = upTo(3);
        due("site(" + site + ", " + what + ")", x.site(site, what), m.site(site, what));
        int group = upTo(5);
        due("talker(" + group + ")", x.talker(group), m.talker(group));
        int k = dice.nextInt(3) == 0 ? upTo(7) : dice.nextInt(3);
        due("queue(" + k + ")", x.queue(k), m.queue(k));
        what = upTo(10);
        due("count(" + what + ")", x.count(what), m.count(what));
    }

    private void foresee() {
        int r = anyRadio();
        due("soon(" + r + ")", x.soon(r), m.soon(r));
        int n = upTo(60);
        int what = upTo(3);
        due("within(" + n + ", " + what + ")", x.within(n, what), m.within(n, what));
        int set = upTo((1 << m.count(0)) - 1);
        what = upTo(1);
        due("wave(" + set + ", " + what + ")", x.wave(set, what), m.wave(set, what));
        if (dice.nextInt(6) == 0) {
            int chance = upTo(10);
            n = upTo(20);
            what = upTo(1);
            due("odds(" + chance + ", " + r + ", " + n + ", " + what + ")",
                x.odds(chance, r, n, what), m.odds(chance, r, n, what));
        }
    }

    private void guess() {
        int r = anyRadio();
        int n = dice.nextBoolean() ? upTo(20) : 1 + dice.nextInt(6);
        int bit = upTo(1);
        int which = dice.nextInt(8);
        if (which < 3) {
            due("sees(" + n + ", " + bit + ")", x.sees(n, bit), m.sees(n, bit));
        } else if (which < 4) {
            due("forget()", x.forget(), m.forget());
        } else if (which < 6) {
            due("ranks(" + r + ")", x.ranks(r), m.ranks(r));
        } else {
            due("look(" + r + ")", x.look(r), m.look(r));
        }
    }
}
