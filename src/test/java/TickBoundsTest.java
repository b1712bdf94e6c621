/** What a TICK does, at each bound that its steps name; and how many acts can be UNDONE. */
public final class TickBoundsTest {
    private static final int IDLE = 0, SENT = 1, BACKED = 2, QUEUED = 3, TALKING = 4, SOFT = 5;

    public static void main(String[] args) {
        lostIsNinetyNineAtMost();
        softFromTwoTicksOn();
        whoIsHeard();
        backedByNumbers();
        backedCountsDown();
        groupsThatLeaveTheSame();
        airOfWhoTalks();
        airOfSoftOnes();
        rankIsWorthFourTicks();
        urgentOnesFirst();
        oneTalksInAGroup();
        sitesNeeded();
        freeChannels();
        whoGivesWay();
        siteZeroFirst();
        patience();
        patienceOfUrgentOnes();
        turnAheadOfPatience();
        tickIsCounted();
        twelveActs();
        eachActIsOne();
        countsComeBack();
        whatIsNoAct();
        fiveHundredAndTwelveCalls();
        Check.end();
    }

    private static void dueHow(String name, TrunkRadio x, int radio, int how, int ticks) {
        Check.due(name + ": radio(" + radio + ", 3)", x.radio(radio, 3), how);
        Check.due(name + ": radio(" + radio + ", 4)", x.radio(radio, 4), ticks);
    }

    // "LOST of a SITE that has it is one TICK more (99 at most)."
    private static void lostIsNinetyNineAtMost() {
        for (int site = 0; site < 2; site++) {
            TrunkRadio x = Check.told("r0 0 0;r1 0 0;");
            x.controls(site, 0);
            Check.due("LOST as it is lost", x.site(site, 3), 0);
            for (int tick = 1; tick <= 103; tick++) {
                x.ticks(1);
                Check.due("LOST behind " + tick, x.site(site, 3), Math.min(99, tick));
                Check.due("of the SITE that has CONTROL", x.site(1 - site, 3), 0);
            }
            Check.due("controls(.., 1)", x.controls(site, 1), 99);
            x.ticks(1);
            Check.due("BACK", x.site(site, 3), 0);
            Check.due("LOST again", x.controls(site, 0), 0);
            x.ticks(1);
            Check.due("it begins anew", x.site(site, 3), 1);
        }
    }

    // "At each SITE that has LOST it 2 TICKS ago or more .. a SENT one is SOFT for 0 TICKS"
    private static void softFromTwoTicksOn() {
        for (int ago = 0; ago <= 4; ago++) {
            TrunkRadio x = Check.told("r0 0 0;r1 1 0;");
            x.controls(0, 0);
            for (int i = 0; i < ago; i++) {
                x.ticks(1);
            }
            x.presses(0, 0);
            x.presses(1, 0);
            x.ticks(1);
            boolean isSoft = ago + 1 >= 2;
            dueHow("LOST " + (ago + 1) + " TICKS ago", x, 0, isSoft ? SOFT : SENT, 0);
            dueHow("the SITE that has CONTROL", x, 1, TALKING, 0);
        }
        TrunkRadio far = Check.told("r0 0 0;");
        far.controls(0, 0);
        for (int i = 0; i < 9; i++) {
            far.ticks(12);
        }
        far.presses(0, 0);
        Check.due("LOST 99 TICKS ago", far.ticks(1), 1);
        dueHow("LOST 99 TICKS ago", far, 0, SOFT, 0);
        TrunkRadio x = Check.told("r0 0 0;");
        x.controls(0, 0);
        x.ticks(1);
        x.controls(0, 1);
        x.controls(0, 0);
        x.presses(0, 0);
        x.ticks(1);
        dueHow("BACK and LOST anew", x, 0, SENT, 0);
    }

    // "the lowest URGENT one is HEARD, if there is one, else, if just one is SENT, that one"
    private static void whoIsHeard() {
        for (int sent = 0; sent < 8; sent++) {
            for (int urgent = 0; urgent < 8; urgent++) {
                TrunkRadio x = Check.told("c3 3;r0 0 0;r0 1 0;r0 2 0;r1 3 0;");
                x.presses(3, 1);
                for (int radio = 0; radio < 3; radio++) {
                    if ((sent >> radio & 1) == 1) {
                        x.presses(radio, urgent >> radio & 1);
                    }
                }
                int urgentOnes = sent & urgent;
                int heard = urgentOnes != 0 ? Integer.lowestOneBit(urgentOnes) : Integer.bitCount(sent) == 1 ? sent : 0;
                Check.due("TALKING or SOFT", x.ticks(1), heard == 0 ? 1 : 2);
                for (int radio = 0; radio < 3; radio++) {
                    int bit = 1 << radio;
                    int how = (sent & bit) == 0 ? IDLE : heard == bit ? TALKING : BACKED;
                    dueHow("sent " + sent + " urgent " + urgent, x, radio, how, how == BACKED ? 1 + radio : 0);
                    Check.due("URGENT", x.radio(radio, 5), (urgentOnes & bit) == 0 ? 0 : 1);
                }
            }
        }
    }

    // "BACKED for 1 TICK and the rest of their number by 3"
    private static void backedByNumbers() {
        int[] ticks = {1, 2, 3, 1, 2, 3, 1};
        for (int a = 0; a < 7; a++) {
            for (int b = a + 1; b < 7; b++) {
                TrunkRadio x = Check.told("r0 0 0;r0 1 0;r0 2 0;r0 3 0;r0 4 0;r0 5 0;r0 0 0;");
                x.presses(b, 0);
                x.presses(a, 0);
                x.ticks(1);
                dueHow("two SENT", x, a, BACKED, ticks[a]);
                dueHow("two SENT", x, b, BACKED, ticks[b]);
            }
        }
    }

    // "Each that was BACKED as the TICK began: one TICK less; with 0 it is SENT." It is heard in the TICK behind that.
    private static void backedCountsDown() {
        for (int radio = 0; radio < 3; radio++) {
            TrunkRadio x = Check.told("r0 0 0;r0 1 0;r0 2 0;r0 3 0;");
            x.presses(radio, 0);
            x.presses(3, 1);
            x.ticks(1);
            x.releases(3);
            for (int left = radio + 1; left >= 1; left--) {
                dueHow("BACKED", x, radio, BACKED, left);
                Check.due("none talks", x.ticks(1), 0);
            }
            dueHow("with 0", x, radio, SENT, 0);
            Check.due("it is heard", x.ticks(1), 1);
            dueHow("HEARD", x, radio, TALKING, 0);
        }
    }

    // "if no other SOFT one of that SITE has a GROUP that leaves the same by CHANNELS of the SITE"
    private static void groupsThatLeaveTheSame() {
        for (int channels = 1; channels <= 3; channels++) {
            for (int a = 0; a < 6; a++) {
                for (int b = 0; b < 6; b++) {
                    int other = channels % 3 + 1;
                    for (int site = 0; site < 2; site++) {
                        String c = site == 0 ? "c" + channels + " " + other + ";" : "c" + other + " " + channels + ";";
                        TrunkRadio x = Check.told(c + "r" + site + " " + a + " 0;r" + site + " " + b + " 0;r" + (1 - site)
                            + " " + b + " 0;");
                        x.controls(0, 0);
                        x.controls(1, 0);
                        x.ticks(1);
                        x.presses(1, 0);
                        x.presses(0, 0);
                        x.presses(2, 0);
                        x.ticks(1);
                        String name = c + " GROUPS " + a + ", " + b;
                        dueHow(name, x, 0, SOFT, 0);
                        dueHow(name, x, 1, a % channels == b % channels ? SENT : SOFT, 0);
                        dueHow(name + " at the other SITE", x, 2, SOFT, 0);
                    }
                }
            }
        }
        // One who is SOFT since a TICK counts as well, until it is IDLE; then the other's turn is in the next TICK.
        TrunkRadio x = Check.told("c1 1;a9;r0 0 0;r0 1 0;");
        x.controls(0, 0);
        x.ticks(1);
        x.presses(1, 0);
        x.ticks(1);
        x.presses(0, 0);
        x.ticks(3);
        dueHow("1 is SOFT", x, 0, SENT, 0);
        x.releases(1);
        x.ticks(1);
        dueHow("1 is IDLE", x, 0, SOFT, 0);
    }

    // "Each that was TALKING or SOFT as the TICK began: one TICK more; with AIR it is IDLE (CUT)."
    private static void airOfWhoTalks() {
        for (int air = 1; air <= 9; air++) {
            TrunkRadio x = Check.told("a" + air + ";r0 0 0;");
            x.presses(0, 0);
            for (int ticks = 0; ticks < air; ticks++) {
                Check.due("AIR " + air, x.ticks(1), 1);
                dueHow("AIR " + air, x, 0, TALKING, ticks);
                Check.due("not CUT", x.count(5), 0);
            }
            Check.due("with AIR " + air, x.ticks(1), 0);
            Check.dueRadio(x, 0, 0, 0, 0, 0);
            Check.due("CUT", x.count(5), 1);
            Check.due("its CHANNEL is free", x.site(0, 1), 2);
        }
    }

    private static void airOfSoftOnes() {
        for (int air = 1; air <= 9; air++) {
            TrunkRadio x = Check.told("a" + air + ";r0 0 0;");
            x.controls(0, 0);
            x.ticks(1);
            x.presses(0, 1);
            for (int ticks = 0; ticks < air; ticks++) {
                Check.due("AIR " + air, x.ticks(1), 1);
                dueHow("AIR " + air, x, 0, SOFT, ticks);
                Check.due("not CUT", x.count(5), 0);
            }
            Check.due("with AIR " + air, x.ticks(1), 0);
            Check.dueRadio(x, 0, 0, 0, 0, 0);
            Check.due("CUT", x.count(5), 1);
        }
    }

    /** 0 and 1 keep the one CHANNEL of SITE 0: when the one is CUT by AIR 9, the other, URGENT, comes at once. */
    private static void tickHeld(TrunkRadio x) {
        for (int radio = 0; radio < 2; radio++) {
            if (x.radio(radio, 3) == TALKING && x.radio(radio, 4) == 8) {
                x.presses(1 - radio, 1);
                break;
            }
        }
        x.ticks(1);
        Check.isTrue("the CHANNEL is held", x.radio(0, 3) == TALKING || x.radio(1, 3) == TALKING);
    }

    private static TrunkRadio held(String rest) {
        TrunkRadio x = Check.told("c1 1;a9;" + rest);
        x.presses(0, 1);
        x.ticks(1);
        return x;
    }

    // "then by 4 times RANK and TICKS they are QUEUED, the greatest first, of like ones the lowest"
    private static void rankIsWorthFourTicks() {
        for (int more = 1; more <= 3; more++) {
            for (int longer = 4 * more - 1; longer <= 4 * more + 1; longer++) {
                waitAgainstRank(0, more, longer, 2);
                waitAgainstRank(0, more, longer, 3);
                waitAgainstRank(3 - more, 3, longer, 2);
                waitAgainstRank(3 - more, 3, longer, 3);
            }
        }
    }

    /** One of the lower rank waits longer by some TICKS than one of the higher rank. */
    private static void waitAgainstRank(int lower, int higher, int longer, int first) {
        int second = 5 - first;
        String two = "r0 2 " + (first == 2 ? lower : higher) + ";r0 3 " + (first == 2 ? higher : lower) + ";";
        TrunkRadio x = held("w20;r0 0 0;r0 1 0;" + two);
        // The one who waits less must not be SENT in the TICK in which 0 and 1 change places.
        if ((2 + longer) % 9 == 1) {
            tickHeld(x);
        }
        x.presses(first, 0);
        for (int i = 0; i < longer; i++) {
            tickHeld(x);
        }
        x.presses(second, 0);
        tickHeld(x);
        dueHow("waits longer", x, first, QUEUED, longer + 1);
        dueHow("waits less", x, second, QUEUED, 1);
        int gap = 4 * (higher - lower) - longer;
        int ahead = gap > 0 ? second : gap < 0 ? first : 2;
        String name = "RANK " + lower + " by " + longer + " TICKS more against RANK " + higher;
        Check.due(name, x.queue(0), ahead);
        Check.due(name, x.queue(1), 5 - ahead);
        Check.due(name, x.queue(2), TrunkRadio.NONE);
        x.releases(x.talker(0) == 0 ? 0 : 1);
        x.ticks(1);
        Check.due(name + ": it TALKS", x.radio(ahead, 3), TALKING);
    }

    // "QUEUED ones, URGENT ones first", among them by RANK and TICKS, too
    private static void urgentOnesFirst() {
        TrunkRadio x = held("w20;r0 0 0;r0 1 0;r0 2 3;r0 3 0;");
        x.presses(2, 0);
        for (int i = 0; i < 7; i++) {
            tickHeld(x);
        }
        x.presses(3, 1);
        tickHeld(x);
        Check.due("URGENT by 1, ahead of 12 + 8", x.queue(0), 3);
        Check.due("the other", x.queue(1), 2);
        for (int longer = 3; longer <= 5; longer++) {
            TrunkRadio y = held("w20;r0 0 0;r0 1 0;r0 2 1;r0 3 0;");
            y.presses(3, 1);
            for (int i = 0; i < longer; i++) {
                y.ticks(1);
            }
            y.presses(2, 1);
            y.ticks(1);
            Check.due("two URGENT ones", y.queue(0), longer > 4 ? 3 : 2);
            Check.due("two URGENT ones", y.queue(1), longer > 4 ? 2 : 3);
        }
    }

    // "if a RADIO of its GROUP is TALKING: it stays, if it is not URGENT, or that one is; else that one is IDLE"
    private static void oneTalksInAGroup() {
        for (int talks = 0; talks < 2; talks++) {
            for (int asks = 0; asks < 2; asks++) {
                TrunkRadio x = Check.told("c3 3;a9;r0 4 3;r0 4 0;");
                x.presses(0, talks);
                x.ticks(1);
                x.presses(1, asks);
                Check.due("one TALKS", x.ticks(1), 1);
                boolean takes = asks == 1 && talks == 0;
                Check.dueRadio(x, 0, takes ? IDLE : TALKING, takes ? 0 : 1, takes ? 0 : talks, takes ? 0 : 1);
                Check.dueRadio(x, 1, takes ? TALKING : QUEUED, takes ? 0 : 1, asks, takes ? 1 : 0);
                Check.due("talker(4)", x.talker(4), takes ? 1 : 0);
                Check.due("that is no CUT", x.count(5), 0);
                Check.due("nor GIVEN UP", x.count(6), 0);
                Check.due("BEGAN", x.count(4), takes ? 2 : 1);
            }
        }
        TrunkRadio x = Check.told("c3 3;a9;r0 4 3;r0 5 0;");
        x.presses(0, 0);
        x.ticks(1);
        x.presses(1, 0);
        Check.due("another GROUP", x.ticks(1), 2);
        TrunkRadio y = Check.told("c3 3;a9;r0 4 3;r0 4 0;");
        y.controls(0, 0);
        y.ticks(1);
        y.presses(0, 0);
        y.ticks(1);
        y.controls(0, 1);
        y.presses(1, 0);
        y.ticks(1);
        dueHow("a SOFT one of its GROUP", y, 0, SOFT, 1);
        dueHow("does not keep it from TALKING", y, 1, TALKING, 0);
    }

    // "NEEDED: its own SITE, and the other one, if that has CONTROL and a RADIO of its GROUP."
    private static void sitesNeeded() {
        for (int own = 0; own < 2; own++) {
            for (int control = 0; control < 2; control++) {
                for (int like = 0; like < 2; like++) {
                    TrunkRadio x = Check.told("c1 1;r" + own + " 3 0;r" + (1 - own) + " " + (like == 1 ? 3 : 2) + " 0;r" + own
                        + " 3 0;");
                    if (control == 0) {
                        x.controls(1 - own, 0);
                    }
                    x.presses(0, 0);
                    x.ticks(1);
                    int sites = control == 1 && like == 1 ? 3 : 1 << own;
                    Check.due("SITES of 0", x.radio(0, 6), sites);
                    Check.due("free at 0", x.site(0, 1), 1 - (sites & 1));
                    Check.due("free at 1", x.site(1, 1), 1 - (sites >> 1));
                    x.releases(0);
                    x.moves(1);
                    x.presses(0, 0);
                    x.ticks(1);
                    Check.due("SITES of 0, none at the other", x.radio(0, 6), 1 << own);
                }
            }
        }
        // Whichever number the other of its GROUP has.
        for (int other = 0; other < 3; other++) {
            TrunkRadio x = Check.told("c1 1;r" + (other == 0 ? 1 : 0) + " 3 0;r" + (other == 1 ? 1 : 0) + " 3 0;r"
                + (other == 2 ? 1 : 0) + " 3 0;");
            for (int radio = 0; radio < 3; radio++) {
                x.presses(radio, 0);
                x.ticks(1);
                Check.due("SITES of " + radio, x.radio(radio, 6), 3);
                x.releases(radio);
            }
        }
        TrunkRadio x = held("r0 0 0;r0 1 0;");
        x.presses(1, 0);
        x.ticks(1);
        x.controls(0, 0);
        x.releases(0);
        x.ticks(1);
        Check.dueRadio(x, 1, TALKING, 0, 0, 1);
    }

    // "If each SITE NEEDED has a CHANNEL that is free .. Else, if it is URGENT, and at each SITE NEEDED that has none
    // free some TALKING one that is not URGENT has a CHANNEL"
    private static void freeChannels() {
        for (int at0 = 0; at0 < 3; at0++) {
            for (int at1 = 0; at1 < 3; at1++) {
                for (int urgent = 0; urgent < 2; urgent++) {
                    TrunkRadio x = Check.told("c1 1;a9;r0 0 0;r1 0 0;r0 1 0;r1 2 0;");
                    if (at0 > 0) {
                        x.presses(2, at0 - 1);
                    }
                    if (at1 > 0) {
                        x.presses(3, at1 - 1);
                    }
                    x.ticks(1);
                    x.presses(0, urgent);
                    x.ticks(1);
                    boolean talks = at0 + at1 == 0 || urgent == 1 && at0 < 2 && at1 < 2;
                    String name = "taken " + at0 + ", " + at1 + ", asked " + urgent;
                    dueHow(name, x, 0, talks ? TALKING : QUEUED, talks ? 0 : 1);
                    Check.due(name, x.radio(0, 6), talks ? 3 : 0);
                    Check.due(name, x.radio(2, 3), at0 > 0 && !talks ? TALKING : IDLE);
                    Check.due(name, x.radio(3, 3), at1 > 0 && !talks ? TALKING : IDLE);
                }
            }
        }
        // By two and three CHANNELS: with one free it TALKS, with none it stays.
        for (int channels = 1; channels <= 3; channels++) {
            TrunkRadio x = Check.told("c" + channels + " 1;a9;r0 0 0;r0 1 0;r0 2 0;r0 3 0;");
            for (int radio = 0; radio < 4; radio++) {
                x.presses(radio, 0);
                x.ticks(1);
                dueHow("CHANNELS " + channels, x, radio, radio < channels ? TALKING : QUEUED, radio < channels ? 0 : 1);
                Check.due("free", x.site(0, 1), Math.max(0, channels - 1 - radio));
            }
        }
    }

    // "the one of these of lowest RANK, of several the highest number, is IDLE"
    private static void whoGivesWay() {
        for (int ranks = 0; ranks < 64; ranks++) {
            for (int urgent = 0; urgent < 8; urgent++) {
                int[] rank = {ranks & 3, ranks >> 2 & 3, ranks >> 4};
                TrunkRadio x = Check.told("c3 3;a9;r0 0 " + rank[0] + ";r0 1 " + rank[1] + ";r0 2 " + rank[2] + ";r0 3 0;");
                int due = TrunkRadio.NONE;
                for (int radio = 0; radio < 3; radio++) {
                    x.presses(radio, urgent >> radio & 1);
                    x.ticks(1);
                    boolean mayGive = (urgent >> radio & 1) == 0;
                    if (mayGive && (due == TrunkRadio.NONE || rank[radio] <= rank[due])) {
                        due = radio;
                    }
                }
                x.presses(3, 1);
                Check.due("three TALK", x.ticks(1), 3);
                for (int radio = 0; radio < 3; radio++) {
                    Check.due("RANKS " + ranks + " URGENT " + urgent, x.radio(radio, 3), radio == due ? IDLE : TALKING);
                }
                Check.due("the URGENT one", x.radio(3, 3), due == TrunkRadio.NONE ? QUEUED : TALKING);
                Check.due("that is no CUT", x.count(5), 0);
            }
        }
    }

    // "first at SITE 0, then (if none is free there yet) at SITE 1"
    private static void siteZeroFirst() {
        for (int own = 0; own < 2; own++) {
            // 0 TALKS at both; 2 at SITE 1 alone, by a lower RANK: it stays, as 0 leaves a CHANNEL at both.
            String asks = own == 0 ? "r0 2 0;r1 2 0;" : "r1 2 0;r0 2 0;";
            TrunkRadio x = Check.told("c1 2;a9;r0 0 3;r1 0 0;r1 1 0;" + asks);
            x.presses(0, 0);
            x.ticks(1);
            x.presses(2, 0);
            x.ticks(1);
            Check.due("full at both", x.site(0, 1) + x.site(1, 1), 0);
            x.presses(3, 1);
            x.ticks(1);
            Check.dueRadio(x, 0, IDLE, 0, 0, 0);
            Check.dueRadio(x, 2, TALKING, 1, 0, 2);
            Check.dueRadio(x, 3, TALKING, 0, 1, 3);
            // The other way round: at SITE 0 the one of lower RANK there goes, at SITE 1 then 0, that has both.
            TrunkRadio y = Check.told("c2 1;a9;r0 0 3;r1 0 0;r0 1 0;" + asks);
            y.presses(0, 0);
            y.ticks(1);
            y.presses(2, 0);
            y.ticks(1);
            Check.due("full at both", y.site(0, 1) + y.site(1, 1), 0);
            y.presses(3, 1);
            y.ticks(1);
            Check.dueRadio(y, 0, IDLE, 0, 0, 0);
            Check.dueRadio(y, 2, IDLE, 0, 0, 0);
            Check.dueRadio(y, 3, TALKING, 0, 1, 3);
        }
        // A SITE that has one free, or that is not NEEDED, loses none.
        TrunkRadio x = Check.told("c1 1;a9;r0 0 0;r1 1 0;r1 2 0;r1 3 0;");
        x.presses(0, 0);
        x.presses(1, 0);
        x.ticks(1);
        x.presses(2, 1);
        x.ticks(1);
        Check.dueRadio(x, 0, TALKING, 1, 0, 1);
        Check.dueRadio(x, 1, IDLE, 0, 0, 0);
        Check.dueRadio(x, 2, TALKING, 0, 1, 2);
    }

    // "Each that stays QUEUED: one TICK more; above PATIENCE it is IDLE (GIVEN UP)."
    private static void patience() {
        for (int patience = 1; patience <= 20; patience++) {
            TrunkRadio x = held("w" + patience + ";r0 0 0;r0 1 0;r0 2 3;");
            x.presses(2, 0);
            for (int ticks = 1; ticks <= patience; ticks++) {
                tickHeld(x);
                dueHow("PATIENCE " + patience, x, 2, QUEUED, ticks);
                Check.due("none is GIVEN UP", x.count(6), 0);
            }
            tickHeld(x);
            Check.dueRadio(x, 2, IDLE, 0, 0, 0);
            Check.due("GIVEN UP", x.count(6), 1);
            Check.due("none is QUEUED", x.count(7), 0);
        }
    }

    private static void patienceOfUrgentOnes() {
        for (int patience = 1; patience <= 6; patience++) {
            TrunkRadio x = held("w" + patience + ";r0 0 0;r0 1 0;");
            x.presses(1, 1);
            x.ticks(patience);
            dueHow("PATIENCE " + patience, x, 1, QUEUED, patience);
            x.ticks(1);
            Check.dueRadio(x, 1, IDLE, 0, 0, 0);
            Check.due("GIVEN UP", x.count(6), 1);
        }
    }

    // Step 5 is ahead of 6: one whose turn comes in the TICK in which it would give up TALKS.
    private static void turnAheadOfPatience() {
        TrunkRadio x = held("w3;r0 0 0;r0 1 0;");
        x.presses(1, 0);
        x.ticks(3);
        dueHow("at PATIENCE", x, 1, QUEUED, 3);
        x.releases(0);
        x.ticks(1);
        dueHow("its turn", x, 1, TALKING, 0);
        Check.due("none is GIVEN UP", x.count(6), 0);
    }

    // "TICK (how many there were) is one more (999 at most)."
    private static void tickIsCounted() {
        TrunkRadio x = new TrunkRadio();
        int tick = 0;
        for (int n = 1; n <= 12; n++) {
            x.ticks(n);
            tick += n;
            Check.due("TICK", x.count(3), tick);
        }
        for (int i = 0; i < 76; i++) {
            x.ticks(12);
        }
        Check.due("TICK", x.count(3), 990);
        Check.due("to 999", x.ticks(9), 0);
        Check.due("TICK", x.count(3), 999);
        Check.due("beyond", x.ticks(1), TrunkRadio.FULL);
        Check.due("TICK", x.count(3), 999);
        Check.due("keep(0)", x.keep(0), 999);
        Check.due("back(0)", x.back(0), 999);
    }

    // "12 are known, older ones are lost"
    private static void twelveActs() {
        for (int acts = 0; acts <= 40; acts++) {
            TrunkRadio x = Made.one();
            for (int act = 0; act < acts; act++) {
                x.ticks(1);
            }
            int known = Math.min(12, acts);
            Check.due("acts known of " + acts, x.count(10), known);
            for (int left = known - 1; left >= 0; left--) {
                Check.due("undo()", x.undo(), left);
                Check.due("count(10)", x.count(10), left);
                Check.due("TICK", x.count(3), acts - known + left);
            }
            Check.due("undo() of none", x.undo(), TrunkRadio.STATE);
            Check.due("TICK stays", x.count(3), acts - known);
            x.ticks(2);
            Check.due("acts behind that", x.count(10), 2);
            x.undo();
            Check.due("TICK", x.count(3), acts - known + 1);
        }
        for (int n = 1; n <= 12; n++) {
            TrunkRadio x = Made.one();
            x.presses(0, 0);
            x.ticks(n);
            Check.due("ticks(" + n + ") are " + n + " acts", x.count(10), Math.min(12, n + 1));
            for (int i = 0; i < n; i++) {
                x.undo();
            }
            Check.due("behind as many undo()", x.count(3), 0);
            dueHow("0 is SENT", x, 0, SENT, 0);
            Check.due("its press", x.undo(), n < 12 ? 0 : TrunkRadio.STATE);
            dueHow("0", x, 0, n < 12 ? IDLE : SENT, 0);
        }
    }

    // "the latest ticks(), presses(), releases(), controls(), moves() that was not refused"
    private static void eachActIsOne() {
        Deep.Call[] acts = {x -> x.ticks(1), x -> x.presses(6, 0), x -> x.presses(6, 1), x -> x.releases(0),
            x -> x.releases(1), x -> x.releases(2), x -> x.releases(4), x -> x.releases(5), x -> x.controls(0, 0),
            x -> x.controls(1, 1), x -> x.moves(6)};
        for (Deep.Call act : acts) {
            String before = withoutActs(Made.busy());
            TrunkRadio z = Made.busy();
            Check.isTrue("done", act.on(z) >= 0);
            Check.isTrue("something changed", !before.equals(withoutActs(z)));
            Check.due("acts stay 12", z.count(10), 12);
            Check.due("undo()", z.undo(), 11);
            Check.isTrue("as it was", before.equals(withoutActs(z)));
            Check.due("undo()", z.undo(), 10);
            Check.isTrue("as ahead of the act ahead", !before.equals(withoutActs(z)));
        }
    }

    /** A TICK in which one is CUT, one begins and one gives up: all of it is UNDONE, and comes back by an IMAGE. */
    private static void countsComeBack() {
        TrunkRadio x = held("w7;r0 0 0;r0 1 3;r0 2 0;");
        x.ticks(1);
        x.presses(2, 0);
        x.ticks(1);
        x.presses(1, 0);
        x.ticks(6);
        Check.due("BEGAN, CUT, GIVEN UP", x.count(4) * 100 + x.count(5) * 10 + x.count(6), 100);
        x.keep(1);
        String before = withoutActs(x);
        x.ticks(1);
        Check.due("BEGAN, CUT, GIVEN UP", x.count(4) * 100 + x.count(5) * 10 + x.count(6), 211);
        x.undo();
        Check.isTrue("UNDONE", before.equals(withoutActs(x)));
        x.ticks(1);
        x.back(1);
        Check.isTrue("by an IMAGE", before.equals(withoutActs(x)));
    }

    private static String withoutActs(TrunkRadio x) {
        StringBuilder all = new StringBuilder();
        for (int what = 0; what < 10; what++) {
            all.append(x.count(what)).append(' ');
        }
        for (int site = 0; site < 2; site++) {
            for (int what = 0; what < 4; what++) {
                all.append(x.site(site, what)).append(' ');
            }
        }
        for (int radio = 0; radio < x.count(0); radio++) {
            for (int what = 0; what < 7; what++) {
                all.append(x.radio(radio, what)).append(' ');
            }
        }
        return all.toString();
    }

    private static void whatIsNoAct() {
        TrunkRadio x = Made.one();
        x.ticks(3);
        Deep.Call[] others = {y -> y.type('a'), TrunkRadio::clear, y -> y.sees(1, 1), TrunkRadio::forget, y -> y.keep(0),
            y -> y.radio(0, 0), y -> y.site(0, 0), y -> y.talker(0), y -> y.queue(0), y -> y.soon(0), y -> y.within(1, 0),
            y -> y.wave(1, 0), y -> y.wave(1, 1), y -> y.odds(1, 0, 1, 0), y -> y.ranks(0), y -> y.look(0),
            y -> y.count(0), y -> y.ticks(0), y -> y.presses(1, 0), y -> y.presses(0, 2), y -> y.releases(0),
            y -> y.releases(1), y -> y.controls(0, 1), y -> y.controls(2, 0), y -> y.moves(1), y -> y.back(1)};
        for (Deep.Call other : others) {
            other.on(x);
            Check.due("acts", x.count(10), 3);
        }
        x.undo();
        Check.due("the TICK is UNDONE", x.count(3), 2);
    }

    // "An object is used for at most 512 calls after it has been made"
    private static void fiveHundredAndTwelveCalls() {
        TrunkRadio x = new TrunkRadio();
        Check.type(x, "a1;r0 0 0;");
        Check.due("net()", x.net(), 2);
        for (int i = 0; i < 250; i++) {
            Check.due("presses", x.presses(0, 0), 0);
            Check.due("ticks", x.ticks(2), 0);
        }
        Check.due("the 512th call", x.count(4), 250);
    }
}
