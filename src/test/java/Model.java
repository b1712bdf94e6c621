import java.math.BigInteger;
import java.util.ArrayDeque;
import java.util.ArrayList;
import java.util.Comparator;
import java.util.Deque;
import java.util.List;
import java.util.regex.Matcher;
import java.util.regex.Pattern;
import java.util.stream.Collectors;

/** The document once more, word by word and slowly, written apart from the program. */
final class Model {
    static final int BAD = -1, STATE = -2, FULL = -3, NONE = -9;

    enum How { IDLE, SENT, BACKED, QUEUED, TALKING, SOFT }

    static final class Radio {
        final int number, group;
        int rank, site, ticks;
        How how = How.IDLE;
        boolean urgent, at0, at1;

        Radio(int number, int site, int group, int rank) {
            this.number = number;
            this.site = site;
            this.group = group;
            this.rank = rank;
        }

        Radio copy() {
            Radio c = new Radio(number, site, group, rank);
            c.ticks = ticks;
            c.how = how;
            c.urgent = urgent;
            c.at0 = at0;
            c.at1 = at1;
            return c;
        }

        void idle() {
            how = How.IDLE;
            ticks = 0;
            urgent = false;
            at0 = false;
            at1 = false;
        }

        boolean on() {
            return how == How.TALKING || how == How.SOFT;
        }

        boolean waits() {
            return how == How.SENT || how == How.BACKED || how == How.QUEUED;
        }

        boolean at(int site) {
            return site == 0 ? at0 : at1;
        }
    }

    static final class World {
        int[] channels = {2, 2};
        int air = 4, patience = 8;
        List<Radio> radios = new ArrayList<>();
        boolean[] control = {true, true};
        int[] lostAgo = {0, 0};
        int tick, began, cut, gave;

        World copy() {
            World w = new World();
            w.channels = channels.clone();
            w.air = air;
            w.patience = patience;
            for (Radio r : radios) {
                w.radios.add(r.copy());
            }
            w.control = control.clone();
            w.lostAgo = lostAgo.clone();
            w.tick = tick;
            w.began = began;
            w.cut = cut;
            w.gave = gave;
            return w;
        }

        long free(int site) {
            return channels[site] - radios.stream().filter(r -> r.at(site)).count();
        }

        List<Radio> queued() {
            return radios.stream().filter(r -> r.how == How.QUEUED)
                .sorted(Comparator.<Radio>comparingInt(r -> r.urgent ? 0 : 1)
                    .thenComparingInt(r -> -(4 * r.rank + r.ticks))
                    .thenComparingInt(r -> r.number))
                .collect(Collectors.toList());
        }

        Radio talker(int group) {
            return radios.stream().filter(r -> r.how == How.TALKING && r.group == group).findFirst().orElse(null);
        }

        void tick() {
            List<Radio> backed = radios.stream().filter(r -> r.how == How.BACKED).collect(Collectors.toList());
            List<Radio> on = radios.stream().filter(Radio::on).collect(Collectors.toList());
            for (int s = 0; s < 2; s++) {
                if (!control[s] && lostAgo[s] < 99) {
                    lostAgo[s]++;
                }
            }
            for (int s = 0; s < 2; s++) {
                int site = s;
                List<Radio> sent = radios.stream().filter(r -> r.site == site && r.how == How.SENT)
                    .collect(Collectors.toList());
                if (control[s]) {
                    Radio heard = sent.stream().filter(r -> r.urgent).findFirst()
                        .orElse(sent.size() == 1 ? sent.get(0) : null);
                    for (Radio r : sent) {
                        if (r == heard) {
                            r.how = How.QUEUED;
                            r.ticks = 0;
                        } else {
                            r.how = How.BACKED;
                            r.ticks = 1 + r.number % 3;
                        }
                    }
                } else if (lostAgo[s] >= 2) {
                    for (Radio r : sent) {
                        boolean other = radios.stream().anyMatch(o -> o != r && o.site == site
                            && o.how == How.SOFT && o.group % channels[site] == r.group % channels[site]);
                        if (!other) {
                            r.how = How.SOFT;
                            r.ticks = 0;
                            began++;
                        }
                    }
                }
            }
            for (Radio r : backed) {
                r.ticks--;
                if (r.ticks == 0) {
                    r.how = How.SENT;
                }
            }
            for (Radio r : on) {
                r.ticks++;
                if (r.ticks == air) {
                    r.idle();
                    cut++;
                }
            }
            for (Radio r : queued()) {
                five(r);
            }
            for (Radio r : radios) {
                if (r.how == How.QUEUED) {
                    r.ticks++;
                    if (r.ticks > patience) {
                        r.idle();
                        gave++;
                    }
                }
            }
            tick = Math.min(999, tick + 1);
        }

        private void five(Radio r) {
            Radio that = talker(r.group);
            if (that != null) {
                if (!r.urgent || that.urgent) {
                    return;
                }
                that.idle();
            }
            List<Integer> needed = new ArrayList<>();
            for (int s = 0; s < 2; s++) {
                int site = s;
                if (s == r.site || control[s] && radios.stream().anyMatch(o -> o.site == site && o.group == r.group)) {
                    needed.add(s);
                }
            }
            boolean allFree = needed.stream().allMatch(s -> free(s) > 0);
            if (!allFree) {
                boolean can = r.urgent && needed.stream().filter(s -> free(s) == 0)
                    .allMatch(s -> radios.stream().anyMatch(o -> o.at(s) && !o.urgent));
                if (!can) {
                    return;
                }
                for (int s : needed) {
                    if (free(s) == 0) {
                        radios.stream().filter(o -> o.at(s) && !o.urgent)
                            .min(Comparator.<Radio>comparingInt(o -> o.rank).thenComparingInt(o -> -o.number))
                            .get().idle();
                    }
                }
            }
            r.how = How.TALKING;
            r.ticks = 0;
            r.at0 = needed.contains(0);
            r.at1 = needed.contains(1);
            began++;
        }
    }

    StringBuilder text = new StringBuilder();
    World now = new World();
    Deque<World> past = new ArrayDeque<>();
    World[] images = new World[2];
    List<int[]> seen = new ArrayList<>();

    private Radio find(int radio) {
        return radio >= 0 && radio < now.radios.size() ? now.radios.get(radio) : null;
    }

    private static boolean bit(int n) {
        return n == 0 || n == 1;
    }

    private void act() {
        past.addLast(now.copy());
        if (past.size() > 12) {
            past.removeFirst();
        }
    }

    int type(int letter) {
        if (letter < 0 || letter > 255) {
            return BAD;
        }
        if (text.length() == 80) {
            return FULL;
        }
        text.append((char) letter);
        return text.length();
    }

    int clear() {
        int had = text.length();
        text.setLength(0);
        return had;
    }

    private static final Pattern TOKEN = Pattern.compile("([0-9]+|[^ ])");

    /** Reads by what each ITEM asks for: a number's least and greatest, in turn. */
    int net() {
        World w = new World();
        List<String> tokens = new ArrayList<>();
        List<Integer> places = new ArrayList<>();
        Matcher m = Pattern.compile(TOKEN.pattern(), Pattern.DOTALL).matcher(text);
        while (m.find()) {
            tokens.add(m.group());
            places.add(m.start());
        }
        places.add(text.length());
        int t = 0;
        int items = 0;
        String told = "";
        while (t < tokens.size()) {
            String first = tokens.get(t);
            int[][] asks;
            switch (first) {
                case "c": asks = new int[][] {{1, 3}, {1, 3}}; break;
                case "a": asks = new int[][] {{1, 9}}; break;
                case "w": asks = new int[][] {{1, 20}}; break;
                case "r": asks = new int[][] {{0, 1}, {0, 5}, {0, 3}}; break;
                default: return -10 - places.get(t);
            }
            if (first.equals("r") ? w.radios.size() == 7 : told.contains(first)) {
                return -10 - places.get(t);
            }
            told += first;
            t++;
            int[] numbers = new int[asks.length];
            for (int i = 0; i < asks.length; i++) {
                String n = t < tokens.size() ? tokens.get(t) : "";
                if (!n.matches("0|[1-9][0-9]?")) {
                    return -10 - places.get(t);
                }
                numbers[i] = Integer.parseInt(n);
                if (numbers[i] < asks[i][0] || numbers[i] > asks[i][1]) {
                    return -10 - places.get(t);
                }
                t++;
            }
            if (t == tokens.size() || !tokens.get(t).equals(";")) {
                return -10 - places.get(t);
            }
            t++;
            items++;
            switch (first) {
                case "c": w.channels = numbers; break;
                case "a": w.air = numbers[0]; break;
                case "w": w.patience = numbers[0]; break;
                default: w.radios.add(new Radio(w.radios.size(), numbers[0], numbers[1], numbers[2]));
            }
        }
        now = w;
        text.setLength(0);
        past.clear();
        images = new World[2];
        seen.clear();
        return items;
    }

    int ticks(int n) {
        if (n < 1 || n > 12) {
            return BAD;
        }
        if (now.tick + n > 999) {
            return FULL;
        }
        for (int i = 0; i < n; i++) {
            act();
            now.tick();
        }
        return (int) now.radios.stream().filter(Radio::on).count();
    }

    int presses(int radio, int urgent) {
        Radio r = find(radio);
        if (r == null || !bit(urgent)) {
            return BAD;
        }
        if (r.how != How.IDLE) {
            return STATE;
        }
        act();
        r.how = How.SENT;
        r.urgent = urgent == 1;
        return r.site;
    }

    int releases(int radio) {
        Radio r = find(radio);
        if (r == null) {
            return BAD;
        }
        if (r.how == How.IDLE) {
            return STATE;
        }
        act();
        int was = r.how.ordinal();
        r.idle();
        return was;
    }

    int controls(int site, int is) {
        if (!bit(site) || !bit(is)) {
            return BAD;
        }
        if (now.control[site] == (is == 1)) {
            return STATE;
        }
        act();
        int ago = now.lostAgo[site];
        now.control[site] = is == 1;
        now.lostAgo[site] = 0;
        return ago;
    }

    int moves(int radio) {
        Radio r = find(radio);
        if (r == null) {
            return BAD;
        }
        if (r.how != How.IDLE) {
            return STATE;
        }
        act();
        r.site = r.site == 0 ? 1 : 0;
        return r.site;
    }

    int undo() {
        if (past.isEmpty()) {
            return STATE;
        }
        now = past.removeLast();
        return past.size();
    }

    int radio(int radio, int what) {
        Radio r = find(radio);
        if (r == null || what < 0 || what > 6) {
            return BAD;
        }
        int[] all = {r.site, r.group, r.rank, r.how.ordinal(), r.ticks, r.urgent ? 1 : 0,
            (r.at0 ? 1 : 0) + (r.at1 ? 2 : 0)};
        return all[what];
    }

    int site(int site, int what) {
        if (!bit(site) || what < 0 || what > 3) {
            return BAD;
        }
        int[] all = {now.channels[site], (int) now.free(site), now.control[site] ? 1 : 0, now.lostAgo[site]};
        return all[what];
    }

    int talker(int group) {
        if (group < 0 || group > 5) {
            return BAD;
        }
        Radio r = now.talker(group);
        return r == null ? NONE : r.number;
    }

    int queue(int k) {
        if (k < 0) {
            return BAD;
        }
        List<Radio> queued = now.queued();
        return k < queued.size() ? queued.get(k).number : NONE;
    }

    int soon(int radio) {
        if (find(radio) == null) {
            return BAD;
        }
        World w = now.copy();
        for (int t = 0; t <= 60; t++) {
            if (w.radios.get(radio).on()) {
                return t;
            }
            w.tick();
        }
        return NONE;
    }

    int within(int n, int what) {
        if (n < 1 || n > 60 || what < 0 || what > 3) {
            return BAD;
        }
        World w = now.copy();
        int full = 0;
        for (int t = 1; t <= n; t++) {
            w.tick();
            if (what < 2 && w.free(what) == 0) {
                full++;
            }
        }
        return what < 2 ? full : what == 2 ? w.began - now.began : w.gave - now.gave;
    }

    private static void press(World w, int set) {
        for (Radio r : w.radios) {
            if ((set & 1 << r.number) != 0 && r.how == How.IDLE) {
                r.how = How.SENT;
            }
        }
    }

    int wave(int set, int what) {
        if (set < 0 || set >= 1 << now.radios.size() || !bit(what)) {
            return BAD;
        }
        if (what == 0) {
            World w = now.copy();
            press(w, set);
            for (int t = 0; t <= 60; t++) {
                if (w.radios.stream().noneMatch(Radio::waits)) {
                    return t;
                }
                w.tick();
            }
            return NONE;
        }
        for (int c = 1; c <= 3; c++) {
            World w = now.copy();
            for (int s = 0; s < 2; s++) {
                w.channels[s] = Math.max(c, (int) (now.channels[s] - now.free(s)));
            }
            press(w, set);
            for (int t = 0; t < 60; t++) {
                w.tick();
            }
            if (w.gave == now.gave) {
                return c;
            }
        }
        return NONE;
    }

    int odds(int x, int radio, int n, int what) {
        if (x < 0 || x > 10 || find(radio) == null || n < 1 || n > 20 || !bit(what)) {
            return BAD;
        }
        int others = 0;
        BigInteger lower = BigInteger.ONE;
        for (Radio r : now.radios) {
            if (r.number != radio && r.how == How.IDLE) {
                others |= 1 << r.number;
                lower = lower.multiply(BigInteger.TEN);
            }
        }
        BigInteger upper = BigInteger.ZERO;
        for (int set = others; set >= 0; set = set == 0 ? -1 : (set - 1) & others) {
            World w = now.copy();
            press(w, set | 1 << radio);
            boolean talks = false;
            for (int t = 0; t < n; t++) {
                w.tick();
                talks |= w.radios.get(radio).on();
            }
            if (talks) {
                upper = upper.add(BigInteger.valueOf(x).pow(Integer.bitCount(set))
                    .multiply(BigInteger.valueOf(10 - x).pow(Integer.bitCount(others & ~set))));
            }
        }
        BigInteger g = upper.gcd(lower);
        return (what == 0 ? upper : lower).divide(g).intValueExact();
    }

    int sees(int n, int talked) {
        if (n < 1 || n > 20 || !bit(talked)) {
            return BAD;
        }
        if (seen.size() == 6) {
            return FULL;
        }
        seen.add(new int[] {n, talked});
        return seen.size();
    }

    int forget() {
        int had = seen.size();
        seen.clear();
        return had;
    }

    private boolean talksBehind(int radio, int rank, int n) {
        World w = now.copy();
        w.radios.get(radio).rank = rank;
        for (int t = 0; t < n; t++) {
            w.tick();
        }
        return w.radios.get(radio).on();
    }

    int ranks(int radio) {
        if (find(radio) == null) {
            return BAD;
        }
        int bits = 0;
        for (int rank = 0; rank < 4; rank++) {
            int tried = rank;
            if (seen.stream().allMatch(s -> talksBehind(radio, tried, s[0]) == (s[1] == 1))) {
                bits += 1 << rank;
            }
        }
        return bits;
    }

    int look(int radio) {
        int bits = ranks(radio);
        if (bits == BAD) {
            return BAD;
        }
        if (Integer.bitCount(bits) <= 1) {
            return NONE;
        }
        int best = NONE;
        int least = 99;
        for (int n = 1; n <= 20; n++) {
            int so = 0;
            int not = 0;
            for (int rank = 0; rank < 4; rank++) {
                if ((bits & 1 << rank) != 0) {
                    if (talksBehind(radio, rank, n)) {
                        so++;
                    } else {
                        not++;
                    }
                }
            }
            if (Math.max(so, not) < least) {
                least = Math.max(so, not);
                best = n;
            }
        }
        return best;
    }

    int keep(int image) {
        if (!bit(image)) {
            return BAD;
        }
        images[image] = now.copy();
        return now.tick;
    }

    int back(int image) {
        if (!bit(image)) {
            return BAD;
        }
        if (images[image] == null) {
            return STATE;
        }
        now = images[image].copy();
        past.clear();
        return now.tick;
    }

    int count(int what) {
        int queued = (int) now.radios.stream().filter(r -> r.how == How.QUEUED).count();
        int[] all = {now.radios.size(), now.air, now.patience, now.tick, now.began, now.cut, now.gave, queued,
            seen.size(), text.length(), past.size()};
        return what < 0 || what >= all.length ? BAD : all[what];
    }
}
