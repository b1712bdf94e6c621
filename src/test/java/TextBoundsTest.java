/** The text at its bounds: each number of each ITEM, how often an ITEM may stand, where it may end, its TOKENS. */
public final class TextBoundsTest {
    public static void main(String[] args) {
        channels();
        air();
        patience();
        sites();
        groups();
        ranks();
        radios();
        onceAtMost();
        anyOrderAndNone();
        asAtFirst();
        numbers();
        lettersOfTokens();
        blanks();
        endsTooEarly();
        theFirstFault();
        eightyLetters();
        Check.end();
    }

    private static void fault(String text, int place) {
        TrunkRadio x = Check.told("c3 1;a2;w3;r1 1 1;");
        Check.type(x, text);
        String before = Check.all(x);
        Check.due("net of '" + text + "'", x.net(), -10 - place);
        Check.isTrue("'" + text + "' changes nothing", before.equals(Check.all(x)));
    }

    private static TrunkRadio read(String text, int items) {
        TrunkRadio x = Check.told("c3 1;a2;w3;r1 1 1;r1 1 1;r1 1 1;");
        Check.due("net of '" + text + "'", Check.net(x, text), items);
        Check.due("the text is empty", x.count(9), 0);
        return x;
    }

    // "c A B (CHANNELS of both SITES)", "CHANNELS (1 .. 3; 2 at first)"
    private static void channels() {
        for (int a = 0; a <= 5; a++) {
            for (int b = 0; b <= 5; b++) {
                String text = "c" + a + " " + b + ";";
                if (a < 1 || a > 3) {
                    fault(text, 1);
                } else if (b < 1 || b > 3) {
                    fault(text, 3);
                } else {
                    TrunkRadio x = read(text, 1);
                    Check.due("CHANNELS of 0", x.site(0, 0), a);
                    Check.due("CHANNELS of 1", x.site(1, 0), b);
                    Check.due("free at 0", x.site(0, 1), a);
                    Check.due("free at 1", x.site(1, 1), b);
                }
            }
        }
        fault("c1;", 2);
        fault("c;", 1);
        fault("c1 1 1;", 5);
        fault("c12;", 1);
    }

    // "a N (AIR)", "AIR (1 .. 9; 4 at first)"
    private static void air() {
        for (int n = 0; n <= 99; n++) {
            if (n < 1 || n > 9) {
                fault("a" + n + ";", 1);
            } else {
                Check.due("AIR", read("a" + n + ";", 1).count(1), n);
            }
        }
        fault("a;", 1);
        fault("a1 1;", 3);
    }

    // "w N (PATIENCE)", "PATIENCE (1 .. 20; 8 at first)"
    private static void patience() {
        for (int n = 0; n <= 99; n++) {
            if (n < 1 || n > 20) {
                fault("w" + n + ";", 1);
            } else {
                Check.due("PATIENCE", read("w" + n + ";", 1).count(2), n);
            }
        }
        fault("w;", 1);
        fault("w20 1;", 4);
    }

    // "SITES 0, 1"
    private static void sites() {
        Check.due("SITE 0", read("r0 2 2;", 1).radio(0, 0), 0);
        Check.due("SITE 1", read("r1 2 2;", 1).radio(0, 0), 1);
        fault("r2 2 2;", 1);
        fault("r10 2 2;", 1);
        fault("r99 2 2;", 1);
    }

    // "GROUP (0 .. 5)"
    private static void groups() {
        for (int group = 0; group <= 5; group++) {
            Check.due("GROUP", read("r1 " + group + " 2;", 1).radio(0, 1), group);
        }
        fault("r1 6 2;", 3);
        fault("r1 10 2;", 3);
        fault("r1 99 2;", 3);
    }

    // "RANK (0 .. 3)"
    private static void ranks() {
        for (int rank = 0; rank <= 3; rank++) {
            Check.due("RANK", read("r1 5 " + rank + ";", 1).radio(0, 2), rank);
        }
        fault("r1 5 4;", 5);
        fault("r1 5 10;", 5);
        fault("r1 5 99;", 5);
        fault("r1 5;", 4);
        fault("r1 5 3 0;", 7);
    }

    // "RADIOS 0 .. (7 at most)", "an eighth r"
    private static void radios() {
        for (int radios = 0; radios <= 7; radios++) {
            StringBuilder text = new StringBuilder();
            for (int radio = 0; radio < radios; radio++) {
                text.append("r").append(radio % 2).append(' ').append(radio % 6).append(' ').append(radio % 4).append(';');
            }
            TrunkRadio x = read(text.toString(), radios);
            Check.due("RADIOS", x.count(0), radios);
            for (int radio = 0; radio < radios; radio++) {
                Check.due("SITE", x.radio(radio, 0), radio % 2);
                Check.due("GROUP", x.radio(radio, 1), radio % 6);
                Check.due("RANK", x.radio(radio, 2), radio % 4);
            }
            Check.due("no more RADIOS", x.radio(radios, 0), TrunkRadio.BAD);
        }
        String seven = "r0 0 0;".repeat(7);
        fault(seven + "r", 49);
        fault(seven + "r0 0 0;", 49);
        fault(seven + "  r 2 0 0;", 51);
        Check.due("other ITEMS behind seven", read(seven + "a1;w1;c1 1;", 10).count(0), 7);
        fault("a1;" + seven + "r0 0 0;", 52);
    }

    // "each once at most", "c, a, w again"
    private static void onceAtMost() {
        fault("c1 1;c1 1;", 5);
        fault("a1;a1;", 3);
        fault("w1;w1;", 3);
        fault("c1 1;a1;w1;c", 11);
        fault("c1 1;a1;w1;a", 11);
        fault("c1 1;a1;w1;w", 11);
        fault("a1;r0 0 0; a0;", 11);
        Check.due("each once", read("c1 1;a1;w1;", 3).count(1), 1);
        // What was told ahead does not count for the next text, nor does what a FAULT left.
        TrunkRadio x = read("c1 1;a1;w1;", 3);
        Check.due("once more, anew", Check.net(x, "c2 2;a2;w2;"), 3);
        Check.due("a FAULT", Check.net(x, "c2 2;a2;w2;" + "r0 0 0;".repeat(7) + "x"), -70);
        Check.due("behind a FAULT", Check.net(x, "c3 3;a3;w3;" + "r0 0 0;".repeat(7)), 10);
    }

    private static void anyOrderAndNone() {
        String[] items = {"c3 2;", "a7;", "w11;", "r1 3 2;"};
        for (int i = 0; i < 4; i++) {
            for (int j = 0; j < 4; j++) {
                for (int k = 0; k < 4; k++) {
                    int l = 6 - i - j - k;
                    if (i == j || i == k || j == k) {
                        continue;
                    }
                    TrunkRadio x = read(items[i] + items[j] + items[k] + items[l], 4);
                    Check.due("all", x.site(0, 0) * 1000 + x.site(1, 0) * 100 + x.count(1) * 10 + x.count(0), 3271);
                    Check.due("PATIENCE", x.count(2), 11);
                }
            }
        }
        Check.due("no ITEM", read("", 0).count(0), 0);
    }

    // "2 at first", "4 at first", "8 at first": of what the text does not tell, whatever was told ahead.
    private static void asAtFirst() {
        String[] texts = {"", "c1 3;", "a1;", "w1;", "r0 0 0;"};
        for (String text : texts) {
            TrunkRadio x = read(text, text.isEmpty() ? 0 : 1);
            Check.due("CHANNELS of 0 by " + text, x.site(0, 0), text.startsWith("c") ? 1 : 2);
            Check.due("CHANNELS of 1 by " + text, x.site(1, 0), text.startsWith("c") ? 3 : 2);
            Check.due("AIR by " + text, x.count(1), text.startsWith("a") ? 1 : 4);
            Check.due("PATIENCE by " + text, x.count(2), text.startsWith("w") ? 1 : 8);
            Check.due("RADIOS by " + text, x.count(0), text.startsWith("r") ? 1 : 0);
        }
    }

    // "a NUMBER above 99 or with a 0 ahead of others": it is that TOKEN's place, wherever it stands.
    private static void numbers() {
        fault("w 99;", 2);
        fault("w 100;", 2);
        fault("w 0100;", 2);
        fault("w 999999999999;", 2);
        fault("a4294967297;", 1);
        fault("w 18446744073709551617;", 2);
        fault("a01;", 1);
        fault("a 09;", 2);
        fault("w00;", 1);
        fault("w020;", 1);
        fault("c01 1;", 1);
        fault("c1 01;", 3);
        fault("r00 0 0;", 1);
        fault("r0 00 0;", 3);
        fault("r0 0 00;", 5);
        fault("r0 0 03;", 5);
        fault("r0 000 0;", 3);
        fault("01", 0);
        fault("  100", 2);
        fault("99;", 0);
        fault("a1;7", 3);
        fault("a1 100;", 3);
        fault("a1 01;", 3);
        Check.due("a 0 alone", read("r0 0 0;", 1).count(0), 1);
        Check.due("a 0 at the end", read("w20;", 1).count(2), 20);
        Check.due("10", read("w10;", 1).count(2), 10);
    }

    // "TOKENS are the letters c, a, w, r, NUMBERS and ;": any other letter is a FAULT where it stands.
    private static void lettersOfTokens() {
        for (int letter = 0; letter <= 255; letter++) {
            boolean isDigit = letter >= '0' && letter <= '9';
            boolean isItem = letter == 'c' || letter == 'a' || letter == 'w' || letter == 'r';
            TrunkRadio x = new TrunkRadio();
            x.type(letter);
            Check.due("the letter " + letter + " alone", x.net(), letter == ' ' ? 0 : isItem ? -11 : -10);
            TrunkRadio y = new TrunkRadio();
            Check.type(y, "a");
            y.type(letter);
            Check.type(y, ";");
            int due = isDigit && letter != '0' ? 1 : letter == ' ' ? -12 : -11;
            Check.due("a, the letter " + letter + ", ;", y.net(), due);
            TrunkRadio z = new TrunkRadio();
            Check.type(z, "a4");
            z.type(letter);
            // Another digit makes another NUMBER.
            due = letter == ';' ? 1 : letter == ' ' ? -13 : isDigit ? -11 : -12;
            Check.due("a4 and the letter " + letter, z.net(), due);
            TrunkRadio u = new TrunkRadio();
            Check.type(u, "a4;");
            u.type(letter);
            Check.due("a4; and the letter " + letter, u.net(),
                letter == ' ' ? 1 : isItem && letter != 'a' ? -14 : -13);
        }
    }

    // "blanks (32) between TOKENS": any number of them, or none; they part NUMBERS.
    private static void blanks() {
        Check.due("none where none is due", read("c1 3;a5;w6;r1 2 3;", 4).site(1, 0), 3);
        Check.due("many", read("   c   1   3   ;   a   5   ;  ", 2).site(1, 0), 3);
        Check.due("blanks alone", read("     ", 0).count(0), 0);
        fault("c13;", 1);
        fault("a1 0;", 3);
        fault("w2 0;", 3);
        fault("r000;", 1);
        fault("r0 00;", 3);
        fault("a\t5;", 1);
        fault("a\n5;", 1);
        fault("a\u00a05;", 1);
        fault("a5\u001f;", 2);
        fault("a5!;", 2);
    }

    // "the text's length, if it ends too early": behind each TOKEN of each ITEM, with blanks behind it and without.
    private static void endsTooEarly() {
        String whole = "c1 2;a3;w4;r1 5 3;";
        for (int length = 0; length <= whole.length(); length++) {
            String text = whole.substring(0, length);
            boolean isEnded = text.isEmpty() || text.endsWith(";");
            for (int blanks = 0; blanks < 3; blanks++) {
                String longer = text + " ".repeat(blanks);
                if (isEnded) {
                    int items = (int) text.chars().filter(c -> c == ';').count();
                    Check.due("net of '" + longer + "'", Check.net(new TrunkRadio(), longer), items);
                } else {
                    fault(longer, longer.length());
                }
            }
        }
    }

    // "the first TOKEN that can't stand there": of several, whichever kinds they are, the first.
    private static void theFirstFault() {
        fault("a0;w0;", 1);
        fault("a1;w0;x", 4);
        fault("x;a0;", 0);
        fault("a100;x", 1);
        fault("x a100;", 0);
        fault("c1;100", 2);
        fault("c1 4", 3);
        fault("r2", 1);
        fault("a1;a", 3);
        fault("r0 6 9", 3);
        fault(";x", 0);
        fault("a1;;", 3);
    }

    // "a text (80 letters at most)"
    private static void eightyLetters() {
        String items = "r1 1 1;".repeat(7) + "c1 1;a1;w1;";
        String eighty = items + " ".repeat(80 - items.length());
        TrunkRadio x = new TrunkRadio();
        Check.type(x, eighty);
        Check.due("80 letters", x.count(9), 80);
        Check.due("net of 80", x.net(), 10);
        Check.type(x, eighty.substring(1) + "a");
        Check.due("net of 80 with a NUMBER ahead", x.net(), -10);
        x.clear();
        Check.type(x, " ".repeat(77) + "a5;");
        Check.due("the last letter counts", x.net(), 1);
        Check.due("AIR", x.count(1), 5);
        Check.type(x, " ".repeat(78) + "a5;");
        Check.due("the 81st letter does not come to it", x.count(9), 80);
        Check.due("it ends too early", x.net(), -90);
        Check.due("clear()", x.clear(), 80);
        Check.type(x, " ".repeat(79) + "5");
        Check.due("a FAULT at the last letter", x.net(), -89);
    }
}
