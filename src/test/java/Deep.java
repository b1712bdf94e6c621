import java.util.function.Supplier;

/** Refused calls: what is answered, and that nothing at all has changed by it, what can't be asked for included. */
final class Deep {
    /** A call on an object. */
    interface Call {
        int on(TrunkRadio x);
    }

    private Deep() {
    }

    /**
     * The call is refused as due, and what is made by the recipe stays as it is made without the call. Undone acts,
     * IMAGES, SEEN and THE TEXT show only behind calls that use them up: each of these looks has an object of its own.
     */
    static void refused(String name, Supplier<TrunkRadio> recipe, Call call, int due) {
        Check.due(name, call.on(recipe.get()), due);
        Supplier<TrunkRadio> touched = () -> {
            TrunkRadio x = recipe.get();
            call.on(x);
            return x;
        };
        Check.isTrue(name + " changes nothing", trace(recipe).equals(trace(touched)));
        TrunkRadio again = touched.get();
        Check.due(name + " again", call.on(again), due);
    }

    static String trace(Supplier<TrunkRadio> recipe) {
        StringBuilder all = new StringBuilder();
        all.append(plain(recipe.get())).append(coming(recipe.get())).append(acting(recipe.get()));
        int acts = recipe.get().count(10);
        for (int undone = 1; undone <= acts; undone++) {
            TrunkRadio x = recipe.get();
            for (int i = 0; i < undone; i++) {
                all.append(x.undo()).append(' ');
            }
            all.append(plain(x));
        }
        for (int image = 0; image < 2; image++) {
            TrunkRadio x = recipe.get();
            all.append(x.back(image)).append(' ').append(plain(x));
        }
        TrunkRadio x = recipe.get();
        all.append(x.net()).append(' ').append(plain(x)).append(x.clear()).append(' ').append(x.forget());
        return all.toString();
    }

    /** All that is as it is. */
    static String plain(TrunkRadio x) {
        StringBuilder all = new StringBuilder(Check.all(x));
        for (int group = 0; group < 6; group++) {
            all.append(x.talker(group)).append(' ');
        }
        for (int k = 0; k < 7; k++) {
            all.append(x.queue(k)).append(' ');
        }
        return all.append('\n').toString();
    }

    /** What is done from here on: each act with each RADIO (one that there is not, too) and each SITE. */
    private static String acting(TrunkRadio x) {
        StringBuilder all = new StringBuilder();
        for (int radio = 0; radio <= 7; radio++) {
            all.append(x.moves(radio)).append(' ').append(x.presses(radio, radio & 1)).append(' ');
        }
        all.append(x.ticks(1)).append(' ').append(plain(x));
        for (int site = 0; site < 2; site++) {
            all.append(x.controls(site, 0)).append(' ').append(x.controls(site, 1)).append(' ');
        }
        for (int radio = 0; radio <= 7; radio++) {
            all.append(x.releases(radio)).append(' ').append(x.soon(radio)).append(' ');
            all.append(x.odds(9, radio, 9, 0)).append(' ').append(x.ranks(radio)).append(' ').append(x.look(radio));
            all.append(' ').append(x.radio(radio, 0)).append(' ');
        }
        return all.append(x.ticks(1)).append(' ').append(plain(x)).toString();
    }

    /** What comes, and what was SEEN (it shows in RANKS). */
    private static String coming(TrunkRadio x) {
        StringBuilder all = new StringBuilder();
        int radios = x.count(0);
        for (int radio = 0; radio < radios; radio++) {
            all.append(x.soon(radio)).append(' ').append(x.ranks(radio)).append(' ').append(x.look(radio)).append(' ');
            all.append(x.odds(3, radio, 20, 0)).append(' ').append(x.odds(3, radio, 20, 1)).append(' ');
        }
        for (int what = 0; what < 4; what++) {
            all.append(x.within(60, what)).append(' ').append(x.within(7, what)).append(' ');
        }
        for (int what = 0; what < 2; what++) {
            all.append(x.wave((1 << radios) - 1, what)).append(' ').append(x.wave(0, what)).append(' ');
        }
        return all.append('\n').toString();
    }
}
