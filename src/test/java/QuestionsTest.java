import java.util.ArrayList;
import java.util.List;
import java.util.function.Supplier;

/**
 * "(As things are NOW; nothing is changed.)": behind each question, and behind a text with a FAULT, each call answers as
 * it does without it, and leaves things as it does without it.
 */
public final class QuestionsTest {
    private final List<String> names = new ArrayList<>();
    private final List<Deep.Call> calls = new ArrayList<>();

    public static void main(String[] args) {
        QuestionsTest questions = questions();
        QuestionsTest first = firstCalls();
        List<Supplier<TrunkRadio>> states = List.of(Made::fresh, Made::one, Made::busy, Made::brim, QuestionsTest::soft);
        for (Supplier<TrunkRadio> state : states) {
            questions.changeNothingFor(first, state);
            faults().changeNothingFor(first, state);
        }
        Check.end();
    }

    /** Four RADIOS: 0 is SOFT, 1 is SENT behind it, 2 TALKS at SITE 1 alone, 3 is QUEUED. */
    private static TrunkRadio soft() {
        TrunkRadio x = Check.told("c1 1;a9;w3;r0 0 3;r0 1 2;r1 2 1;r1 3 0;");
        x.controls(0, 0);
        x.presses(0, 0);
        x.presses(1, 1);
        x.presses(2, 0);
        x.ticks(2);
        x.presses(3, 0);
        x.ticks(1);
        x.sees(3, 0);
        x.keep(1);
        return x;
    }

    private void add(String name, Deep.Call call) {
        names.add(name);
        calls.add(call);
    }

    private void addForRadios(String name, int most, CallBoundsTest.Open call) {
        for (int radio = 0; radio <= most; radio++) {
            int one = radio;
            add(name + " " + radio, x -> call.with(x, one));
        }
    }

    private static QuestionsTest questions() {
        QuestionsTest all = new QuestionsTest();
        all.addForRadios("soon", 6, TrunkRadio::soon);
        all.addForRadios("ranks", 6, TrunkRadio::ranks);
        all.addForRadios("look", 6, TrunkRadio::look);
        all.addForRadios("odds(5, .., 20, 0)", 6, (x, n) -> x.odds(5, n, 20, 0));
        all.addForRadios("odds(1, .., 1, 1)", 6, (x, n) -> x.odds(1, n, 1, 1));
        all.addForRadios("within(60, ..)", 3, (x, n) -> x.within(60, n));
        all.addForRadios("within(1, ..)", 3, (x, n) -> x.within(1, n));
        all.addForRadios("wave of all", 1, (x, n) -> x.wave((1 << x.count(0)) - 1, n));
        all.addForRadios("wave of none", 1, (x, n) -> x.wave(0, n));
        all.addForRadios("radio(0, ..)", 6, (x, n) -> x.radio(0, n));
        all.addForRadios("site(0, ..)", 3, (x, n) -> x.site(0, n));
        all.addForRadios("site(1, ..)", 3, (x, n) -> x.site(1, n));
        all.addForRadios("talker", 5, TrunkRadio::talker);
        all.addForRadios("queue", 7, TrunkRadio::queue);
        all.addForRadios("count", 10, TrunkRadio::count);
        return all;
    }

    /** Texts that tell all in another way, up to the FAULT; what they leave in THE TEXT is cleared ahead of the compare. */
    private static QuestionsTest faults() {
        QuestionsTest all = new QuestionsTest();
        String[] texts = {"x", "c3 3;a1;w1;x", "c1 1;a9;w20;" + "r1 5 3;".repeat(7) + "r", "r1 0 0;r0", "a9;c2 2;w"};
        for (String text : texts) {
            add(all, text);
        }
        return all;
    }

    private static void add(QuestionsTest all, String text) {
        all.add("a FAULT in " + text, x -> {
            x.clear();
            Check.type(x, text);
            return x.net();
        });
    }

    /** Each call as the first one behind a question; THE TEXT is another behind a FAULT, so it is not asked for. */
    private static QuestionsTest firstCalls() {
        QuestionsTest all = new QuestionsTest();
        all.add("ticks(1)", x -> x.ticks(1));
        all.add("ticks(2)", x -> x.ticks(2));
        all.add("ticks(12)", x -> x.ticks(12));
        all.addForRadios("presses(.., 0)", 7, (x, n) -> x.presses(n, 0));
        all.addForRadios("presses(.., 1)", 7, (x, n) -> x.presses(n, 1));
        all.addForRadios("releases", 7, TrunkRadio::releases);
        all.addForRadios("moves", 7, TrunkRadio::moves);
        all.addForRadios("controls(.., 0)", 1, (x, n) -> x.controls(n, 0));
        all.addForRadios("controls(.., 1)", 1, (x, n) -> x.controls(n, 1));
        all.add("undo()", TrunkRadio::undo);
        all.addForRadios("radio(.., 2)", 7, (x, n) -> x.radio(n, 2));
        all.addForRadios("site(.., 0)", 1, (x, n) -> x.site(n, 0));
        all.addForRadios("site(.., 1)", 1, (x, n) -> x.site(n, 1));
        all.addForRadios("talker", 5, TrunkRadio::talker);
        all.addForRadios("queue", 7, TrunkRadio::queue);
        all.addForRadios("soon", 7, TrunkRadio::soon);
        all.addForRadios("within(60, ..)", 3, (x, n) -> x.within(60, n));
        all.addForRadios("within(3, ..)", 3, (x, n) -> x.within(3, n));
        all.addForRadios("wave of all", 1, (x, n) -> x.wave((1 << x.count(0)) - 1, n));
        all.addForRadios("wave of none", 1, (x, n) -> x.wave(0, n));
        all.addForRadios("wave of no such set", 1, (x, n) -> x.wave(1 << x.count(0), n));
        all.addForRadios("odds(3, .., 20, 0)", 7, (x, n) -> x.odds(3, n, 20, 0));
        all.addForRadios("odds(3, .., 20, 1)", 7, (x, n) -> x.odds(3, n, 20, 1));
        all.add("sees(3, 1)", x -> x.sees(3, 1));
        all.add("forget()", TrunkRadio::forget);
        all.addForRadios("ranks", 7, TrunkRadio::ranks);
        all.addForRadios("look", 7, TrunkRadio::look);
        all.addForRadios("keep", 1, TrunkRadio::keep);
        all.addForRadios("back", 1, TrunkRadio::back);
        all.addForRadios("count", 8, TrunkRadio::count);
        all.add("count(10)", x -> x.count(10));
        all.add("net() of another text", x -> Check.net(x, "c1 1;r0 0 0;r1 1 1;"));
        return all;
    }

    private void changeNothingFor(QuestionsTest first, Supplier<TrunkRadio> state) {
        for (int c = 0; c < first.calls.size(); c++) {
            TrunkRadio plain = state.get();
            int due = first.calls.get(c).on(plain);
            plain.clear();
            String left = Deep.plain(plain);
            for (int q = 0; q < calls.size(); q++) {
                TrunkRadio x = state.get();
                calls.get(q).on(x);
                String name = first.names.get(c) + " behind " + names.get(q);
                Check.due(name, first.calls.get(c).on(x), due);
                x.clear();
                Check.isTrue(name + " leaves the same", left.equals(Deep.plain(x)));
            }
        }
    }
}
