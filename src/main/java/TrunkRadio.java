/** A shared radio that is led by a control channel: two sites, radios in groups, told by a text. */
public final class TrunkRadio {
    public static final int BAD = -1, STATE = -2, FULL = -3, NONE = -9;

    private static final int SITES = 2;
    private static final int RADIOS = 7;
    private static final int GROUPS = 6;
    private static final int RANKS = 4;
    private static final int MOST_CHANNELS = 3;
    private static final int MOST_AIR = 9;
    private static final int MOST_PATIENCE = 20;
    private static final int LETTERS = 80;
    private static final int FAULT_BASE = -10;

    private static final int LAST_TICK = 999;
    private static final int TICKS_A_CALL = 12;
    private static final int LONGEST_LOST = 99;
    private static final int LOST_UNTIL_SOFT = 2;
    private static final int CONTROLLED = -1;
    private static final int ACTS_KNOWN = 12;
    private static final int IMAGES = 2;

    private static final int FAR = 60;
    private static final int NEAR = 20;
    private static final int MOST_SEEN = 6;
    private static final int TENTHS = 10;

    private static final int IDLE = 0;
    private static final int SENT = 1;
    private static final int BACKED = 2;
    private static final int QUEUED = 3;
    private static final int TALKING = 4;
    private static final int SOFT = 5;

    private final Reader text = new Reader();
    private final Net told = new Net();
    private final Net trial = new Net();
    private final Air air = new Air();
    private final State now = new State();
    private final State future = new State();
    private final History past = new History();
    private final State[] images = new State[IMAGES];
    private int imagesKept;
    private final int[] seenTicks = new int[MOST_SEEN];
    private final int[] seenTalked = new int[MOST_SEEN];
    private int seen;
    private final int[] timesByRank = new int[RANKS];

    public TrunkRadio() {
        for (int image = 0; image < IMAGES; image++) {
            images[image] = new State();
        }
    }

    // ---- what is told

    public int type(int letter) {
        if (letter < 0 || letter > 255) {
            return BAD;
        }
        return text.append(letter) ? text.length : FULL;
    }

    public int clear() {
        return text.empty();
    }

    public int net() {
        int answer = text.readInto(trial);
        if (answer < 0) {
            return answer;
        }
        told.copy(trial);
        now.begin(told);
        text.empty();
        past.lose();
        seen = 0;
        imagesKept = 0;
        return answer;
    }

    // ---- what is done

    public int ticks(int n) {
        if (n < 1 || n > TICKS_A_CALL) {
            return BAD;
        }
        if (now.tick + n > LAST_TICK) {
            return FULL;
        }
        for (int tick = 0; tick < n; tick++) {
            past.record(now);
            air.pass(told, now);
        }
        int onAir = 0;
        for (int radio = 0; radio < told.radios; radio++) {
            onAir += now.isOnAir(radio) ? 1 : 0;
        }
        return onAir;
    }

    public int presses(int radio, int urgent) {
        if (!told.has(radio) || !isBit(urgent)) {
            return BAD;
        }
        if (now.how[radio] != IDLE) {
            return STATE;
        }
        past.record(now);
        now.enter(radio, SENT);
        now.urgent[radio] = urgent;
        return now.site[radio];
    }

    public int releases(int radio) {
        if (!told.has(radio)) {
            return BAD;
        }
        int was = now.how[radio];
        if (was == IDLE) {
            return STATE;
        }
        past.record(now);
        now.rest(radio);
        return was;
    }

    public int controls(int site, int is) {
        if (!isSite(site) || !isBit(is)) {
            return BAD;
        }
        boolean has = now.hasControl(site);
        if (has == (is == 1)) {
            return STATE;
        }
        int ago = has ? 0 : now.lost[site];
        past.record(now);
        now.lost[site] = has ? 0 : CONTROLLED;
        return ago;
    }

    public int moves(int radio) {
        if (!told.has(radio)) {
            return BAD;
        }
        if (now.how[radio] != IDLE) {
            return STATE;
        }
        past.record(now);
        now.site[radio] = 1 - now.site[radio];
        return now.site[radio];
    }

    public int undo() {
        return past.bringBack(now) ? past.known : STATE;
    }

    // ---- how things are

    public int radio(int radio, int what) {
        if (!told.has(radio)) {
            return BAD;
        }
        switch (what) {
            case 0: return now.site[radio];
            case 1: return told.group[radio];
            case 2: return told.rank[radio];
            case 3: return now.how[radio];
            case 4: return now.since[radio];
            case 5: return now.urgent[radio];
            case 6: return now.held[radio];
            default: return BAD;
        }
    }

    public int site(int site, int what) {
        if (!isSite(site)) {
            return BAD;
        }
        switch (what) {
            case 0: return told.channels[site];
            case 1: return now.free(told, site);
            case 2: return now.hasControl(site) ? 1 : 0;
            case 3: return now.hasControl(site) ? 0 : now.lost[site];
            default: return BAD;
        }
    }

    public int talker(int group) {
        return group < 0 || group >= GROUPS ? BAD : now.talkerOf(told, group);
    }

    public int queue(int k) {
        if (k < 0) {
            return BAD;
        }
        int queued = air.lineUp(told, now);
        return k < queued && k < RADIOS ? air.line[k] : NONE;
    }

    // ---- what comes

    public int soon(int radio) {
        if (!told.has(radio)) {
            return BAD;
        }
        future.copy(now);
        for (int behind = 0; behind <= FAR; behind++) {
            if (future.isOnAir(radio)) {
                return behind;
            }
            // No TICK wakes an IDLE one, so looking further is of no use.
            if (future.how[radio] == IDLE) {
                return NONE;
            }
            air.pass(told, future);
        }
        return NONE;
    }

    public int within(int n, int what) {
        if (n < 1 || n > FAR || what < 0 || what > 3) {
            return BAD;
        }
        int full = 0;
        future.copy(now);
        for (int tick = 0; tick < n; tick++) {
            air.pass(told, future);
            if (isSite(what)) {
                full += future.fullSites(told) >> what & 1;
            }
        }
        if (isSite(what)) {
            return full;
        }
        return what == 2 ? future.began - now.began : future.gaveUp - now.gaveUp;
    }

    public int wave(int set, int what) {
        if (set < 0 || set >= 1 << told.radios || !isBit(what)) {
            return BAD;
        }
        if (what == 0) {
            return waveLasts(set);
        }
        for (int channels = 1; channels <= MOST_CHANNELS; channels++) {
            trial.copy(told);
            for (int site = 0; site < SITES; site++) {
                int taken = told.channels[site] - now.free(told, site);
                trial.channels[site] = Math.max(channels, taken);
            }
            if (isEnough(set)) {
                return channels;
            }
        }
        return NONE;
    }

    public int odds(int x, int radio, int n, int what) {
        if (x < 0 || x > TENTHS || !told.has(radio) || n < 1 || n > NEAR || !isBit(what)) {
            return BAD;
        }
        int others = now.idleOnes(told) & ~(1 << radio);
        int upper = 0;
        for (int set = 0; set < 1 << told.radios; set++) {
            if ((set & ~others) != 0) {
                continue;
            }
            int weight = power(x, Integer.bitCount(set)) * power(TENTHS - x, Integer.bitCount(others & ~set));
            if (weight > 0 && talksAmong(set, radio, n)) {
                upper += weight;
            }
        }
        int lower = power(TENTHS, Integer.bitCount(others));
        int common = commonDivisor(upper, lower);
        return (what == 0 ? upper : lower) / common;
    }

    // ---- which rank

    public int sees(int n, int talked) {
        if (n < 1 || n > NEAR || !isBit(talked)) {
            return BAD;
        }
        if (seen >= MOST_SEEN) {
            return FULL;
        }
        seenTicks[seen] = n;
        seenTalked[seen] = talked;
        seen++;
        return seen;
    }

    public int forget() {
        int had = seen;
        seen = 0;
        return had;
    }

    public int ranks(int radio) {
        return told.has(radio) ? ranksThatFit(radio) : BAD;
    }

    public int look(int radio) {
        if (!told.has(radio)) {
            return BAD;
        }
        int fitting = ranksThatFit(radio);
        int all = Integer.bitCount(fitting);
        if (all <= 1) {
            return NONE;
        }
        int best = NONE;
        int smallest = RANKS + 1;
        for (int n = 1; n <= NEAR; n++) {
            int so = ranksOnAir(fitting, n);
            int greater = Math.max(so, all - so);
            if (greater < smallest) {
                smallest = greater;
                best = n;
            }
        }
        return best;
    }

    // ---- images

    public int keep(int image) {
        if (image < 0 || image >= IMAGES) {
            return BAD;
        }
        images[image].copy(now);
        imagesKept |= 1 << image;
        return now.tick;
    }

    public int back(int image) {
        if (image < 0 || image >= IMAGES) {
            return BAD;
        }
        if ((imagesKept >> image & 1) == 0) {
            return STATE;
        }
        now.copy(images[image]);
        past.lose();
        return now.tick;
    }

    public int count(int what) {
        switch (what) {
            case 0: return told.radios;
            case 1: return told.air;
            case 2: return told.patience;
            case 3: return now.tick;
            case 4: return now.began;
            case 5: return now.cut;
            case 6: return now.gaveUp;
            case 7: return air.lineUp(told, now);
            case 8: return seen;
            case 9: return text.length;
            case 10: return past.known;
            default: return BAD;
        }
    }

    // ---- what the calls share

    private static boolean isSite(int site) {
        return site >= 0 && site < SITES;
    }

    private static boolean isBit(int number) {
        return number == 0 || number == 1;
    }

    private int waveLasts(int set) {
        future.copy(now);
        future.pressIdle(told, set);
        for (int behind = 0; behind <= FAR; behind++) {
            if (!future.isAnyWaiting(told)) {
                return behind;
            }
            air.pass(told, future);
        }
        return NONE;
    }

    /** Whether none gives up behind a wave by the CHANNELS of trial. */
    private boolean isEnough(int set) {
        future.copy(now);
        future.pressIdle(trial, set);
        // Only one who waits can give up, and no TICK brings a new one to wait.
        for (int tick = 0; tick < FAR && future.isAnyWaiting(trial); tick++) {
            air.pass(trial, future);
            if (future.gaveUp != now.gaveUp) {
                return false;
            }
        }
        return true;
    }

    private boolean talksAmong(int others, int radio, int n) {
        future.copy(now);
        future.pressIdle(told, others | 1 << radio);
        // No TICK wakes an IDLE one, so an IDLE one won't talk any more.
        for (int tick = 0; tick < n && future.how[radio] != IDLE; tick++) {
            air.pass(told, future);
            if (future.isOnAir(radio)) {
                return true;
            }
        }
        return false;
    }

    private static int power(int base, int exponent) {
        int product = 1;
        for (int i = 0; i < exponent && i < RADIOS; i++) {
            product *= base;
        }
        return product;
    }

    private static int commonDivisor(int a, int b) {
        int greater = a;
        int smaller = b;
        for (int step = 0; step < 64 && smaller != 0; step++) {
            int rest = greater % smaller;
            greater = smaller;
            smaller = rest;
        }
        return Math.max(1, greater);
    }

    /** The RANKS (bits) by which all that was SEEN is so; leaves in timesByRank when the RADIO talks by each. */
    private int ranksThatFit(int radio) {
        int fitting = 0;
        trial.copy(told);
        for (int rank = 0; rank < RANKS; rank++) {
            trial.rank[radio] = rank;
            timesByRank[rank] = timesOnAir(radio);
            if (agreesWithSeen(timesByRank[rank])) {
                fitting |= 1 << rank;
            }
        }
        return fitting;
    }

    /** Bit n: whether the RADIO is TALKING or SOFT behind n TICKS, by the RANKS of trial. */
    private int timesOnAir(int radio) {
        int times = 0;
        future.copy(now);
        // No TICK wakes an IDLE one, so the bits behind that stay 0.
        for (int n = 1; n <= NEAR && future.how[radio] != IDLE; n++) {
            air.pass(trial, future);
            if (future.isOnAir(radio)) {
                times |= 1 << n;
            }
        }
        return times;
    }

    private boolean agreesWithSeen(int times) {
        for (int i = 0; i < seen && i < MOST_SEEN; i++) {
            if ((times >> seenTicks[i] & 1) != seenTalked[i]) {
                return false;
            }
        }
        return true;
    }

    private int ranksOnAir(int among, int n) {
        int so = 0;
        for (int rank = 0; rank < RANKS; rank++) {
            if ((among >> rank & 1) == 1) {
                so += timesByRank[rank] >> n & 1;
            }
        }
        return so;
    }

    /** What a text tells; only net() and a trial change it. */
    private static final class Net {
        int radios;
        int air;
        int patience;
        final int[] channels = new int[SITES];
        final int[] firstSite = new int[RADIOS];
        final int[] group = new int[RADIOS];
        final int[] rank = new int[RADIOS];

        Net() {
            beginAnew();
        }

        void beginAnew() {
            radios = 0;
            air = 4;
            patience = 8;
            channels[0] = 2;
            channels[1] = 2;
        }

        void copy(Net other) {
            radios = other.radios;
            air = other.air;
            patience = other.patience;
            System.arraycopy(other.channels, 0, channels, 0, SITES);
            System.arraycopy(other.firstSite, 0, firstSite, 0, RADIOS);
            System.arraycopy(other.group, 0, group, 0, RADIOS);
            System.arraycopy(other.rank, 0, rank, 0, RADIOS);
        }

        boolean has(int radio) {
            return radio >= 0 && radio < radios && radio < RADIOS;
        }
    }

    /** THE TEXT, and how it is read TOKEN by TOKEN. */
    private static final class Reader {
        private static final int END = 0;
        private static final int NUMBER = 1;
        private static final int WRONG = 2;
        private static final int MOST_NUMBER = 99;

        int length;
        private final int[] letters = new int[LETTERS];
        private int at;
        private int start;
        private int kind;
        private int value;
        private boolean channelsTold;
        private boolean airTold;
        private boolean patienceTold;

        Reader() {
        }

        boolean append(int letter) {
            if (length < 0 || length >= LETTERS) {
                return false;
            }
            letters[length] = letter;
            length++;
            return true;
        }

        int empty() {
            int had = length;
            length = 0;
            return had;
        }

        /** How many ITEMS there are, or -10 less FAULT; what net holds behind a FAULT is of no use. */
        int readInto(Net net) {
            net.beginAnew();
            at = 0;
            channelsTold = false;
            airTold = false;
            patienceTold = false;
            for (int items = 0; items <= LETTERS; items++) {
                readToken();
                if (kind == END) {
                    return items;
                }
                if (!readItem(net)) {
                    break;
                }
            }
            return FAULT_BASE - start;
        }

        private int letterAt(int place) {
            return place >= 0 && place < length && place < LETTERS ? letters[place] : END;
        }

        private static boolean isDigit(int letter) {
            return letter >= '0' && letter <= '9';
        }

        private void readToken() {
            while (at < length && letterAt(at) == ' ') {
                at++;
            }
            start = at;
            if (at >= length) {
                kind = END;
                return;
            }
            int letter = letterAt(at);
            if (isDigit(letter)) {
                readNumber();
                return;
            }
            at++;
            boolean isKnown = letter == 'c' || letter == 'a' || letter == 'w' || letter == 'r' || letter == ';';
            kind = isKnown ? letter : WRONG;
        }

        private void readNumber() {
            value = 0;
            while (at < length && isDigit(letterAt(at))) {
                // Held just above the greatest, so that many digits can't wrap around.
                value = Math.min(MOST_NUMBER + 1, value * 10 + letterAt(at) - '0');
                at++;
            }
            boolean hasZeroAhead = letterAt(start) == '0' && at - start > 1;
            kind = hasZeroAhead || value > MOST_NUMBER ? WRONG : NUMBER;
        }

        /** Reads on behind the first TOKEN of an ITEM; false leaves start at the TOKEN that can't stand there. */
        private boolean readItem(Net net) {
            switch (kind) {
                case 'c': return !channelsTold && readChannels(net) && isEnded();
                case 'a': return !airTold && readAir(net) && isEnded();
                case 'w': return !patienceTold && readPatience(net) && isEnded();
                case 'r': return net.radios < RADIOS && readRadio(net) && isEnded();
                default: return false;
            }
        }

        private boolean isEnded() {
            readToken();
            return kind == ';';
        }

        private boolean isNumberFrom(int least, int most) {
            readToken();
            return kind == NUMBER && value >= least && value <= most;
        }

        private boolean readChannels(Net net) {
            channelsTold = true;
            for (int site = 0; site < SITES; site++) {
                if (!isNumberFrom(1, MOST_CHANNELS)) {
                    return false;
                }
                net.channels[site] = value;
            }
            return true;
        }

        private boolean readAir(Net net) {
            airTold = true;
            boolean is = isNumberFrom(1, MOST_AIR);
            net.air = value;
            return is;
        }

        private boolean readPatience(Net net) {
            patienceTold = true;
            boolean is = isNumberFrom(1, MOST_PATIENCE);
            net.patience = value;
            return is;
        }

        private boolean readRadio(Net net) {
            int radio = net.radios;
            if (radio < 0 || radio >= RADIOS || !isNumberFrom(0, SITES - 1)) {
                return false;
            }
            net.firstSite[radio] = value;
            if (!isNumberFrom(0, GROUPS - 1)) {
                return false;
            }
            net.group[radio] = value;
            if (!isNumberFrom(0, RANKS - 1)) {
                return false;
            }
            net.rank[radio] = value;
            net.radios++;
            return true;
        }
    }

    /** How things are at one time: all that can be UNDONE, and that an IMAGE keeps. */
    private static final class State {
        final int[] site = new int[RADIOS];
        final int[] how = new int[RADIOS];
        final int[] since = new int[RADIOS];
        final int[] urgent = new int[RADIOS];
        final int[] held = new int[RADIOS];
        final int[] lost = new int[SITES];
        int tick;
        int began;
        int cut;
        int gaveUp;

        State() {
            lost[0] = CONTROLLED;
            lost[1] = CONTROLLED;
        }

        void begin(Net net) {
            for (int radio = 0; radio < RADIOS; radio++) {
                site[radio] = net.firstSite[radio];
                rest(radio);
            }
            lost[0] = CONTROLLED;
            lost[1] = CONTROLLED;
            tick = 0;
            began = 0;
            cut = 0;
            gaveUp = 0;
        }

        void copy(State other) {
            System.arraycopy(other.site, 0, site, 0, RADIOS);
            System.arraycopy(other.how, 0, how, 0, RADIOS);
            System.arraycopy(other.since, 0, since, 0, RADIOS);
            System.arraycopy(other.urgent, 0, urgent, 0, RADIOS);
            System.arraycopy(other.held, 0, held, 0, RADIOS);
            System.arraycopy(other.lost, 0, lost, 0, SITES);
            tick = other.tick;
            began = other.began;
            cut = other.cut;
            gaveUp = other.gaveUp;
        }

        boolean hasControl(int place) {
            return lost[place] == CONTROLLED;
        }

        boolean isOnAir(int radio) {
            return how[radio] == TALKING || how[radio] == SOFT;
        }

        void enter(int radio, int state) {
            how[radio] = state;
            since[radio] = 0;
        }

        void rest(int radio) {
            enter(radio, IDLE);
            urgent[radio] = 0;
            held[radio] = 0;
        }

        void pressIdle(Net net, int set) {
            for (int radio = 0; radio < net.radios; radio++) {
                if ((set >> radio & 1) == 1 && how[radio] == IDLE) {
                    enter(radio, SENT);
                }
            }
        }

        int idleOnes(Net net) {
            int set = 0;
            for (int radio = 0; radio < net.radios; radio++) {
                set |= how[radio] == IDLE ? 1 << radio : 0;
            }
            return set;
        }

        boolean isAnyWaiting(Net net) {
            for (int radio = 0; radio < net.radios; radio++) {
                if (how[radio] == SENT || how[radio] == BACKED || how[radio] == QUEUED) {
                    return true;
                }
            }
            return false;
        }

        int free(Net net, int place) {
            int free = net.channels[place];
            for (int radio = 0; radio < net.radios; radio++) {
                free -= held[radio] >> place & 1;
            }
            return free;
        }

        /** The SITES (bits) at which no CHANNEL is free. */
        int fullSites(Net net) {
            int first = net.channels[0];
            int second = net.channels[1];
            for (int radio = 0; radio < net.radios; radio++) {
                first -= held[radio] & 1;
                second -= held[radio] >> 1 & 1;
            }
            return (first < 1 ? 1 : 0) | (second < 1 ? 2 : 0);
        }

        int talkerOf(Net net, int group) {
            for (int radio = 0; radio < net.radios; radio++) {
                if (how[radio] == TALKING && net.group[radio] == group) {
                    return radio;
                }
            }
            return NONE;
        }
    }

    /** The states ahead of the latest acts; the oldest makes room for a new one. */
    private static final class History {
        int known;
        private final State[] states = new State[ACTS_KNOWN];
        private int next;

        History() {
            for (int act = 0; act < ACTS_KNOWN; act++) {
                states[act] = new State();
            }
        }

        void lose() {
            known = 0;
        }

        void record(State now) {
            states[next].copy(now);
            next = (next + 1) % ACTS_KNOWN;
            known = Math.min(ACTS_KNOWN, known + 1);
        }

        boolean bringBack(State now) {
            if (known < 1) {
                return false;
            }
            known--;
            next = (next + ACTS_KNOWN - 1) % ACTS_KNOWN;
            now.copy(states[next]);
            return true;
        }
    }

    /** What a TICK does; its rows are kept so that no TICK makes new ones. */
    private static final class Air {
        final int[] line = new int[RADIOS];
        private final int[] was = new int[RADIOS];

        Air() {
        }

        void pass(Net net, State now) {
            System.arraycopy(now.how, 0, was, 0, RADIOS);
            for (int site = 0; site < SITES; site++) {
                if (now.hasControl(site)) {
                    hear(net, now, site);
                } else {
                    now.lost[site] = Math.min(LONGEST_LOST, now.lost[site] + 1);
                    helpThemselves(net, now, site);
                }
            }
            tryAgain(net, now);
            cutLongTalks(net, now);
            int queued = lineUp(net, now);
            for (int k = 0; k < queued && k < RADIOS; k++) {
                serve(net, now, line[k]);
            }
            giveUp(net, now);
            now.tick = Math.min(LAST_TICK, now.tick + 1);
        }

        private static boolean isSentAt(State now, int site, int radio) {
            return now.how[radio] == SENT && now.site[radio] == site;
        }

        private static void hear(Net net, State now, int site) {
            int heard = heardAt(net, now, site);
            for (int radio = 0; radio < net.radios; radio++) {
                if (!isSentAt(now, site, radio)) {
                    continue;
                }
                if (radio == heard) {
                    now.enter(radio, QUEUED);
                } else {
                    now.how[radio] = BACKED;
                    now.since[radio] = 1 + radio % 3;
                }
            }
        }

        private static int heardAt(Net net, State now, int site) {
            int sent = 0;
            int last = NONE;
            for (int radio = 0; radio < net.radios; radio++) {
                if (isSentAt(now, site, radio)) {
                    if (now.urgent[radio] == 1) {
                        return radio;
                    }
                    sent++;
                    last = radio;
                }
            }
            return sent == 1 ? last : NONE;
        }

        private static void helpThemselves(Net net, State now, int site) {
            if (now.lost[site] < LOST_UNTIL_SOFT) {
                return;
            }
            for (int radio = 0; radio < net.radios; radio++) {
                if (isSentAt(now, site, radio) && !isSoftTaken(net, now, radio)) {
                    now.enter(radio, SOFT);
                    now.began++;
                }
            }
        }

        private static boolean isSoftTaken(Net net, State now, int radio) {
            int site = now.site[radio];
            int channels = Math.max(1, net.channels[site]);
            int own = net.group[radio] % channels;
            for (int other = 0; other < net.radios; other++) {
                if (now.how[other] == SOFT && now.site[other] == site && net.group[other] % channels == own) {
                    return true;
                }
            }
            return false;
        }

        private void tryAgain(Net net, State now) {
            for (int radio = 0; radio < net.radios; radio++) {
                if (was[radio] == BACKED) {
                    now.since[radio]--;
                    if (now.since[radio] < 1) {
                        now.enter(radio, SENT);
                    }
                }
            }
        }

        private void cutLongTalks(Net net, State now) {
            for (int radio = 0; radio < net.radios; radio++) {
                if (was[radio] == TALKING || was[radio] == SOFT) {
                    now.since[radio]++;
                    if (now.since[radio] >= net.air) {
                        now.rest(radio);
                        now.cut++;
                    }
                }
            }
        }

        /** Puts the QUEUED ones in line by their order: how many there are. */
        int lineUp(Net net, State now) {
            int queued = 0;
            for (int radio = 0; radio < net.radios; radio++) {
                if (now.how[radio] != QUEUED) {
                    continue;
                }
                int place = queued;
                while (place > 0 && isAhead(net, now, radio, line[place - 1])) {
                    line[place] = line[place - 1];
                    place--;
                }
                line[place] = radio;
                queued++;
            }
            return queued;
        }

        /** Of like ones the lower is ahead: radio is the higher of the two. */
        private static boolean isAhead(Net net, State now, int radio, int lower) {
            if (now.urgent[radio] != now.urgent[lower]) {
                return now.urgent[radio] == 1;
            }
            return 4 * net.rank[radio] + now.since[radio] > 4 * net.rank[lower] + now.since[lower];
        }

        private static void serve(Net net, State now, int radio) {
            boolean isUrgent = now.urgent[radio] == 1;
            int talker = now.talkerOf(net, net.group[radio]);
            if (talker != NONE) {
                if (!isUrgent || now.urgent[talker] == 1) {
                    return;
                }
                now.rest(talker);
            }
            int needed = sitesNeeded(net, now, radio);
            if (isUrgent) {
                takeOver(net, now, needed);
            }
            if ((needed & now.fullSites(net)) == 0) {
                now.enter(radio, TALKING);
                now.held[radio] = needed;
                now.began++;
            }
        }

        private static int sitesNeeded(Net net, State now, int radio) {
            int own = now.site[radio];
            int other = 1 - own;
            if (now.hasControl(other)) {
                for (int one = 0; one < net.radios; one++) {
                    if (now.site[one] == other && net.group[one] == net.group[radio]) {
                        return 3;
                    }
                }
            }
            return 1 << own;
        }

        /** Makes room at each SITE needed that has none free, or at none of them. */
        private static void takeOver(Net net, State now, int needed) {
            int lacking = needed & now.fullSites(net);
            for (int site = 0; site < SITES; site++) {
                if ((lacking >> site & 1) == 1 && weakestAt(net, now, site) == NONE) {
                    return;
                }
            }
            for (int site = 0; site < SITES; site++) {
                // Asked anew: who gives way at SITE 0 may leave a channel at SITE 1, too.
                lacking = needed & now.fullSites(net);
                int weakest = weakestAt(net, now, site);
                if ((lacking >> site & 1) == 1 && weakest != NONE) {
                    now.rest(weakest);
                }
            }
        }

        private static int weakestAt(Net net, State now, int site) {
            int weakest = NONE;
            for (int radio = 0; radio < net.radios; radio++) {
                boolean mayGive = (now.held[radio] >> site & 1) == 1 && now.urgent[radio] == 0;
                if (mayGive && (weakest == NONE || net.rank[radio] <= net.rank[weakest])) {
                    weakest = radio;
                }
            }
            return weakest;
        }

        private static void giveUp(Net net, State now) {
            for (int radio = 0; radio < net.radios; radio++) {
                if (now.how[radio] == QUEUED) {
                    now.since[radio]++;
                    if (now.since[radio] > net.patience) {
                        now.rest(radio);
                        now.gaveUp++;
                    }
                }
            }
        }
    }
}
