/** Promises 28 to 32, and what section 4 says of texts. */
final class EdgesOfTexts extends Edges {
    private static final int GOOD = -1;

    EdgesOfTexts(Due d) {
        super(d);
    }

    @Override
    void all() {
        tape();
        telling();
        grammar();
        words();
        faults();
        values();
        counting();
    }

    /** The place of the fault of a text, or that there is none; one with a fault leaves nothing behind. */
    private void place(String bytes, int place) {
        Run x = run().text(bytes, place == GOOD ? 0 : -100 - place).due("count(6)", 0).due("count(4)", place == GOOD ? 1 : 0);
        if (place != GOOD) {
            x.due("why(0)", NONE).due("why(1)", NONE).due("why(2)", NONE).due("textTold(0, 0)", BAD);
        }
    }

    private void tape() {
        at("Section 4", "96 bytes at most", this::bytesAtMost);
        at("Promise 28", "the highest of each number first", this::highestFirst);
        at("Promise 28", "FULL: it would have more than 96", () -> {
            refused(this::full, FULL, "feed(0, 0, 0)", "feed(-1, MIN, MAX)");
            refused(() -> run().tape("fee s" + " ".repeat(80)), FULL, "feed(0, 0, 0)");
        });
        at("Promise 29", "THE TAPE keeps its first n bytes", this::firstBytes);
        at("Promise 29", "BAD", () -> {
            range(this::busy, 0, 6, "trim(#)");
            range(this::full, 0, 96, "trim(#)");
            refused(this::run, BAD, "trim(1)", "trim(-1)");
        });
    }

    private void bytesAtMost() {
        Run x = run();
        for (int i = 1; i <= 8; i++) {
            x.due("feed(0x20202020, 0x20202020, 0x20202020)", 12 * i).due("count(6)", 12 * i);
        }
        // The last byte of them all counts, be it of a word, of a number, or a sign.
        run().text("fee " + "1+".repeat(45) + "1 ", 0);
        run().text("fee  " + "1+".repeat(45) + "s", 0).due("textTold(0, 1)", 46);
        run().text("fee  " + "1+".repeat(45) + "7", 0).due("fee()", 52);
        run().text("fee " + "1+".repeat(45) + "1)", -195);
        run().text("fee  " + "1+".repeat(45) + "x", -195);
        x.due("feed(0, 0, 0)", FULL).due("count(6)", 96).due("trim(85)", 85).due("feed(0, 0, 0)", FULL).due("count(6)", 85);
        x.due("trim(84)", 84).due("feed(0, 0, 0)", 96).due("text()", -100 - 84);
    }

    private void highestFirst() {
        // "fee " "12+3" "4*5 ", then bytes of which the highest bit is set.
        run().due("feed(0x66656520, 0x31322B33, 0x342A3520)", 12).due("text()", 0).due("fee()", 12 + 34 * 5);
        run().does("feed(0x66656520, 0xFF202020, -1)").due("text()", -104);
        run().does("feed(0x66656520, 0x30FF2020, -1)").due("text()", -105);
        run().does("feed(0x66656520, 0x302080FF, -1)").due("text()", -106);
        run().does("feed(0x66656520, 0x302020FF, -1)").due("text()", -107);
    }

    private void firstBytes() {
        run().tape("fee 1234+").due("trim(7)", 7).due("count(6)", 7).due("text()", 0).due("fee()", 123);
        run().tape("fee 5").due("trim(5)", 5).due("text()", 0);
        run().tape("fee 5").due("trim(0)", 0).due("count(6)", 0).due("text()", -100);
        run().due("trim(0)", 0);
        run().tape("fee sss").does("trim(5)").due("text()", 0);
        run().tape("fee 1+s").does("trim(6)").due("text()", -106);
        // What was cut off does not come back, and what is fed goes on behind what was kept.
        run().tape("fee 12+7").does("trim(6)").due("trim(8)", BAD).does("feed(0x34333231, 0x20202020, 0x20202020)").due("count(6)", 18).due("text()", -104);
    }

    private void telling() {
        at("Section 4", "TEXTS, 14 at most, numbered from 0", this::fourteenTexts);
        at("Section 4", "an act that reads it uses it up, whatever it answers", this::usedUp);
        at("Promise 30", "FULL", () -> refusedBut(this::full, this::fullWithoutTape, FULL, "text()"));
        at("Promise 30", "-100 less the place of its FAULT", () -> refusedBut(this::busy, this::busyWithoutTape, -106, "text()"));
        at("Promise 30", "-100 less the place of its FAULT; FULL", () -> {
            refusedBut(() -> fullWithoutTape().tape("fee 1+"), this::fullWithoutTape, -106, "text()");
            refused(this::fullWithoutTape, -100, "text()");
        });
        at("Promise 31", "(0 hours, 1 fee, 2 fine)", () -> run().text("fine 1", 0).text("hours 1", 1).text("fee 1", 2).due("textTold(0, 0)", 2).due("textTold(1, 0)", 0).due("textTold(2, 0)", 1));
        at("Promise 31", "1 how many NUMBERS and NAMES it has", this::numbersAndNames);
        at("Promise 31", "BAD", () -> {
            range(this::busy, 0, 2, "textTold(#, 0)");
            range(this::full, 0, 13, "textTold(#, 1)");
            range(this::busy, 0, 1, "textTold(2, #)");
            refused(this::run, BAD, "textTold(0, 0)");
        });
    }

    private void fourteenTexts() {
        Run x = run();
        for (int i = 0; i < 14; i++) {
            x.due("textTold(" + i + ", 0)", BAD).text("fee " + i, i).due("textTold(" + i + ", 0)", 1).due("why(1)", i).due("fee()", i);
        }
        x.text("fee 14", FULL).text("hours 0", FULL).due("count(4)", 14).due("textTold(14, 0)", BAD).due("fee()", 13).due("why(0)", NONE);
    }

    private void usedUp() {
        run().text("fee 1", 0).due("count(6)", 0).due("text()", -100).due("count(6)", 0);
        run().text("fee 1+", -106).due("count(6)", 0).due("text()", -100);
        run().text("", -100).due("count(6)", 0);
        fullWithoutTape().text("fee 1", FULL).due("count(6)", 0).due("text()", -100);
        fullWithoutTape().text("fee 1+", -106).due("count(6)", 0).due("text()", -100);
        // The next bytes are the first ones again.
        run().text("fee 1+", -106).due("feed(0, 0, 0)", 12).due("text()", -100);
    }

    private void numbersAndNames() {
        run().text("fee s", 0).due("textTold(0, 1)", 1);
        run().text("hours !(((t)))", 0).due("textTold(0, 1)", 1);
        run().text("hours (t+n)*w/12 - 1234 < t & !0 | 7", 0).due("textTold(0, 1)", 8);
        run().text("fee " + "s+".repeat(45) + "a", 0).due("textTold(0, 1)", 46);
        run().text("fee s s", -106).text("fee a", 0).due("textTold(0, 1)", 1);
    }

    private void value(String e, int value) {
        run("bed(0, 2, 7, 0)").text("fine " + e, 0).due("fine(0)", value);
    }

    private void grammar() {
        at("Section 4", "KEY: hours | fee | fine", () -> {
            place("hours 1", GOOD);
            place("fee 1", GOOD);
            place("fine 1", GOOD);
            for (String none : new String[] {"hour", "hourss", "ours", "fees", "fe", "ee", "fin", "fines", "f", "or", "key", "Fee", "7", "(", "t", "feefee", "hours1"}) {
                place(none + " 1", none.equals("hours1") ? 5 : 0);
            }
            for (String key : new String[] {"hours", "fee", "fine"}) {
                for (int i = 0; i < key.length(); i++) {
                    place(key.substring(0, i) + "x" + key.substring(i + 1) + " 1", 0);
                }
            }
        });
        at("Section 4", "OR: AND { | AND }", () -> chain("|"));
        at("Section 4", "AND: TEST { & TEST }", () -> chain("&"));
        at("Section 4", "TEST: SUM [ (< | = | >) SUM ]", this::oneTest);
        at("Section 4", "SUM: TERM { (+ | -) TERM }", () -> {
            chain("+");
            chain("-");
        });
        at("Section 4", "TERM: PIECE { (* | /) PIECE }", () -> {
            chain("*");
            chain("/");
        });
        at("Section 4", "E, the loosest first", this::looseAndTight);
        at("Section 4", "PIECE: NUMBER (1 to 4 digits)", () -> {
            value("7", 7);
            value("42", 42);
            value("999", 999);
            value("9999", 9999);
            value("0", 0);
            value("0000", 0);
            value("0010", 10);
            place("fee 00000", 4);
        });
        at("Section 4", "! PIECE", () -> {
            value("!0", 1);
            value("!!0", 0);
            value("!f", 0);
            value("!(f)", 0);
            value("!0+5", 6);
            value("!7*5", 0);
            value("5-!0", 4);
            value("!2=2", 0);
        });
        at("Section 4", "( E )", () -> {
            value("(7)", 7);
            value("((f|o))", 1);
            value("(1=1)=1", 1);
            value("(3-2)-1", 0);
            value("3-(2-1)", 2);
        });
        at("Section 4", "NAMES, each one letter", this::namesOfEachKey);
    }

    /** One, two and as many as go on, and none may be missing at either side. */
    private void chain(String sign) {
        place("fee s" + sign + "a", GOOD);
        place("fee 1" + (sign + "1").repeat(45), GOOD);
        place("fee " + sign + "1", 4);
        place("fee 1" + sign, 6);
        place("fee 1" + sign + sign + "1", 6);
        place("fee (1" + sign + ")", 7);
    }

    private void oneTest() {
        for (String sign : new String[] {"<", "=", ">"}) {
            place("fee 1" + sign + "2", GOOD);
            place("fee " + sign + "1", 4);
            place("fee 1" + sign, 6);
            for (String again : new String[] {"<", "=", ">"}) {
                place("fee 1" + sign + "2" + again + "3", 7);
                place("fee 1" + sign + again + "3", 6);
                place("fee (1" + sign + "2)" + again + "3", GOOD);
                place("fee 1" + sign + "(2" + again + "3)", GOOD);
                place("fee 1" + sign + "2&3" + again + "4", GOOD);
                place("fee 1" + sign + "2|3" + again + "4", GOOD);
                place("fee 1" + sign + "2+3" + again + "4", 9);
                place("fee 1" + sign + "2*!3" + again + "4", 10);
            }
        }
    }

    private void looseAndTight() {
        value("1|0&0", 1);
        value("0&0|1", 1);
        value("0&1=0", 0);
        value("1=1&2", 1);
        value("2<1+2", 1);
        value("1+2>2", 1);
        value("1+2*3", 7);
        value("2*3+1", 7);
        value("9-4/2", 7);
        value("9-4-2", 3);
        value("80/4/2", 10);
        value("7/2*2", 6);
        value("2-1+1", 2);
        value("1|1=0", 1);
    }

    private void namesOfEachKey() {
        String[] keys = {"hours", "fee", "fine"};
        String[] names = {"tnw", "sa", "fo"};
        for (int key = 0; key < 3; key++) {
            for (char letter = 'a'; letter <= 'z'; letter++) {
                boolean is = names[key].indexOf(letter) >= 0;
                place(keys[key] + " " + letter, is ? GOOD : keys[key].length() + 1);
            }
        }
        place("hours tn", 6);
        place("hours tired", 6);
        place("fee sa", 4);
        place("fine fo", 5);
        place("fee fee", 4);
    }

    private void words() {
        at("Section 4", "A word is a row of letters a .. z, or of digits, as long as it goes", this::asLongAsItGoes);
        at("Section 4", "any other byte is a sign by itself", this::eachByte);
        at("Section 4", "Between words and signs, and at the ends, there may be blanks (byte 32)", this::blanks);
        at("Section 4", "a word right behind another one needs one", () -> {
            place("fee s", GOOD);
            place("fee 1", GOOD);
            place("fee1", 3);
            place("hours1", 5);
            place("fine12", 4);
            place("fee(s)", GOOD);
            place("fee!s", GOOD);
            place("fee!1", GOOD);
            place("fee s+1", GOOD);
            place("fee(1)+s", GOOD);
        });
    }

    private void asLongAsItGoes() {
        place("fees", 0);
        place("fee ss", 4);
        place("fee zs", 4);
        place("fee sz", 4);
        place("fee 99999", 4);
        place("fee az+1", 4);
        place("fee 9 9", 6);
        place("fee 12345678901", 4);
    }

    /** Each byte as the first, behind the KEY, in the place of a PIECE, and behind one. */
    private void eachByte() {
        for (int b = 0; b < 256; b++) {
            String its = String.valueOf((char) b);
            boolean letter = b >= 'a' && b <= 'z';
            boolean digit = b >= '0' && b <= '9';
            place(its + "fee s", b == ' ' ? GOOD : 0);
            place("fee" + its + "s", b == ' ' || b == '!' ? GOOD : b == '(' ? 5 : letter ? 0 : 3);
            place("fee " + its, b == 's' || b == 'a' || digit ? GOOD : b == '(' || b == '!' || b == ' ' ? 5 : 4);
            place("fee s" + its + "1", "+-*/<=>&|".contains(its) ? GOOD : b == ' ' ? 6 : letter ? 4 : 5);
            place("fee s" + its, b == ' ' ? GOOD : "+-*/<=>&|".contains(its) ? 6 : letter ? 4 : 5);
        }
    }

    private void blanks() {
        place(" fee s", GOOD);
        place("fee s ", GOOD);
        place("   fee   s   ", GOOD);
        place(" fee ( ! s + a ) * ( 12 / 3 ) ", GOOD);
        place(" ".repeat(91) + "fee 1", GOOD);
        place("fe e s", 0);
        place("fee 1 2", 6);
        place("fee s\t+1", 5);
        place("fee s\n", 5);
    }

    private void faults() {
        at("Section 4", "FAULT: the first byte of the first word or sign with which no TEXT goes on", this::firstWithWhichNoneGoesOn);
        at("Section 4", "a word that needs a blank ahead of it", () -> {
            place("fee s1", 5);
            place("fee a99", 5);
            place("fee 1s", 5);
            place("fee 12a", 6);
            place("fee (s+12a)", 9);
            place("fee7+", 3);
            place("fee s+1s+", 7);
            place("fee1s", 3);
        });
        at("Section 4", "a NUMBER of more than 4 digits", () -> {
            place("fee 1234", GOOD);
            place("fee 12345", 4);
            place("fee 00001", 4);
            place("fee s+12345+s", 6);
            place("fee (1234567890", 5);
            place("12345 s", 0);
            place("fee 9999+10000", 9);
            place("fee s 12345", 6);
        });
        at("Section 4", "the ninth ( that would be open within others", this::openBrackets);
        at("Section 4", "the ninth ! likewise", this::openNots);
        at("Section 4", "each by itself", () -> {
            place("fee " + "!".repeat(8) + "(".repeat(8) + "s" + ")".repeat(8), GOOD);
            place("fee " + "(".repeat(8) + "!".repeat(8) + "s" + ")".repeat(8), GOOD);
            place("fee " + "!(".repeat(8) + "s" + ")".repeat(8), GOOD);
            place("fee " + "!(".repeat(8) + "!s" + ")".repeat(8), 20);
            place("fee " + "!(".repeat(8) + "(s" + ")".repeat(9), 20);
        });
        at("Section 4", "the end (the place behind the last byte), if it comes too soon", this::theEndTooSoon);
    }

    private void firstWithWhichNoneGoesOn() {
        place("fee )", 4);
        place("fee s)", 5);
        place("fee (s))", 7);
        place("fee ()", 5);
        place("fee (s a)", 7);
        place("fee s(", 5);
        place("fee s!", 5);
        place("fee (s)(a)", 7);
        place("fee (s) a", 8);
        place("fee !+", 5);
        place("fee what s", 4);
        place("fee   what", 6);
        place("hours s", 6);
        place("fee t+", 4);
        place("fee +) what 12345", 4);
        place("fee s fee s", 6);
        place("what is fee", 0);
        place("  what", 2);
        place("fee s,a", 5);
        place("fee s&&a", 6);
    }

    private void openBrackets() {
        place("fee " + "(".repeat(8) + "s" + ")".repeat(8), GOOD);
        place("fee " + "(".repeat(9) + "s" + ")".repeat(9), 12);
        place("fee " + "(".repeat(30), 12);
        place("fee " + "(s)+".repeat(20) + "(s)", GOOD);
        place("fee " + "(".repeat(7) + "s" + "+(s)".repeat(3) + ")".repeat(7), GOOD);
        place("fee " + "(".repeat(7) + "(s)+((", 4 + 7 + 4 + 1);
        place("fee " + "(".repeat(8) + "s" + ")".repeat(8) + "*" + "(".repeat(8) + "s" + ")".repeat(8), GOOD);
        place("fee " + "(".repeat(8) + "s" + ")".repeat(8) + "*" + "(".repeat(9), 4 + 17 + 1 + 8);
        place("fee " + "s+(".repeat(8) + "s" + ")".repeat(8), GOOD);
        place("fee " + "s+(".repeat(9) + "s" + ")".repeat(9), 4 + 26);
    }

    private void openNots() {
        place("fee " + "!".repeat(8) + "s", GOOD);
        place("fee " + "!".repeat(9) + "s", 12);
        place("fee " + "!".repeat(40), 12);
        place("fee " + "!s+".repeat(20) + "s", GOOD);
        place("fee " + "!".repeat(8) + "s+" + "!".repeat(8) + "s", GOOD);
        place("fee " + "!".repeat(8) + "s+" + "!".repeat(9) + "s", 4 + 10 + 8);
        place("fee ! ! ! ! ! ! ! ! ! s", 4 + 16);
        // Around a ( it is open until the ) comes.
        place("fee !!!!(!!!!s+!!!!a)", GOOD);
        place("fee !!!!(!!!!!s)", 13);
        place("fee !!!!(s)+!!!!!!!!s", GOOD);
        place("fee !!!!((!!!!s)+!!!!!s)", 21);
    }

    private void theEndTooSoon() {
        place("", 0);
        place(" ", 1);
        place(" ".repeat(96), 96);
        place("fee", 3);
        place("fee ", 4);
        place("hours  ", 7);
        place("fee s+", 6);
        place("fee s+ ", 7);
        place("fee (", 5);
        place("fee (s", 6);
        place("fee (s  ", 8);
        place("fee ((s)", 8);
        place("fee !", 5);
        place("fee s<", 6);
        place("fee " + "1+".repeat(46), 96);
        place("fee " + "1+".repeat(45) + "(1", 96);
    }

    private void values() {
        at("Section 4", "Ints wrap", () -> {
            value("9999*9999*9999", (int) (9999L * 9999 * 9999));
            value("8192*512*512", MIN);
            value("8192*512*512-1", MAX);
            value("0-8192*512*512-1", MAX);
            value("0-8192*512*512", MIN);
            value("8192*512*1024", 0);
            value("8192*512*512<0", 1);
            value("8192*512*512/(0-1)", MIN);
        });
        at("Section 4", "/ is 0 by 0", () -> {
            value("7/0", 0);
            value("0/0", 0);
            value("7/(f-2)", 0);
            value("1+7/0*3", 1);
            value("0/7", 0);
            run("one(0, 0)").text("hours 7/t", 0).due("folk(0, 4)", 0).does("nights(1)").due("folk(0, 4)", 7);
        });
        at("Terms", "/ cuts towards 0", () -> {
            value("7/2", 3);
            value("(0-7)/2", -3);
            value("7/(0-2)", -3);
            value("(0-7)/(0-2)", 3);
            value("(0-1)/2", 0);
            value("1999/1000", 1);
        });
        at("Section 4", "tests, & | ! give 1 or 0", this::oneOrNone);
        at("Section 4", "(what is not 0 is true; both sides are worked out)", () -> {
            value("2&4", 1);
            value("(0-1)&(0-1)", 1);
            value("(0-1)|0", 1);
            value("!(0-1)", 0);
            value("256&8192*8", 1);
            value("0&7/0", 0);
            value("1|7/0", 1);
        });
    }

    private void oneOrNone() {
        int[][] pairs = {{1, 2}, {2, 2}, {2, 1}, {0, 0}, {0, 5}, {5, 0}, {5, 6}};
        for (int[] pair : pairs) {
            int a = pair[0];
            int b = pair[1];
            value(a + "<" + b, a < b ? 1 : 0);
            value(a + "=" + b, a == b ? 1 : 0);
            value(a + ">" + b, a > b ? 1 : 0);
            value(a + "&" + b, a > 0 && b > 0 ? 1 : 0);
            value(a + "|" + b, a > 0 || b > 0 ? 1 : 0);
            value("!" + a, a > 0 ? 0 : 1);
        }
        value("0-1<0", 1);
        value("0-1>0", 0);
        value("0-1=0-1", 1);
    }

    private void counting() {
        at("Section 4", "of hours t TIRED, n THE NIGHT, w how many of the FOLK (not GONE) are in its TOWN", this::namesOfHours);
        at("Section 4", "of fee s SLEPT, a AWAKE", () -> still("bed(0, 0, 0, 0); one(0, 0); one(0, 0); one(3, 0); nights(1)").text("fee s", 0).due("fee()", 2).text("fee a", 1).due("fee()", 1));
        at("Section 4", "of fine f AT, o TO", () -> run("bed(4, 3, 5, 7)").text("fine f", 0).due("fine(0)", 3).text("fine o", 1).due("fine(0)", 5));
        at("Section 4", "Of a KEY that TEXT counts that was told last", this::toldLast);
        at("Promise 32", "NONE", () -> {
            refused(this::run, NONE, "why(0)", "why(1)", "why(2)");
            refused(this::full, NONE, "why(0)", "why(2)");
        });
        at("Promise 32", "BAD", () -> range(this::busy, 0, 2, "why(#)"));
        at("Promise 32", "BAD; NONE", () -> refused(this::run, BAD, "why(3)", "why(-1)"));
    }

    private void namesOfHours() {
        Run x = still("one(2, 0); one(2, 0); one(2, 0); one(5, 0); sends(1, 3, 1); sends(3, 2, 9)");
        x.text("hours w", 0).due("folk(0, 4)", 2).due("folk(1, 4)", 2).due("folk(3, 4)", 1);
        x.text("hours t", 1).due("folk(0, 4)", 0).due("folk(3, 4)", 9);
        x.text("hours n", 2).due("folk(0, 4)", 0).does("nights(4)").due("folk(0, 4)", 4).due("folk(1, 4)", 4);
        Run nine = run();
        for (int i = 0; i < 9; i++) {
            nine.does("one(3, 3)");
        }
        nine.text("hours w", 0).due("folk(8, 4)", 9);
        for (int i = 0; i < 9; i++) {
            nine.does("sends(" + i + ", 3, 1)").due("folk(0, 4)", 8 - i);
        }
        // In the night w is of those that are there as it begins, whoever lies down already.
        still("bed(0, 0, 1, 0); one(0, 0); one(0, 0)").text("hours w=2", 0).due("nights(1)", 2);
        // Of the night in which they lie down: 0, then 1.
        still("bed(0, 0, 0, 0); one(0, 0)").text("hours n", 0).due("nights(1)", 0).due("nights(1)", 1);
    }

    private void toldLast() {
        Run x = run("bed(0, 1, 2, 3)").text("fee 1", 0).text("fine 2", 1).text("hours 3", 2).due("why(1)", 0).due("why(2)", 1).due("why(0)", 2);
        x.text("fee 4", 3).due("why(1)", 3).due("fee()", 4).due("fine(0)", 2).due("why(2)", 1).due("why(0)", 2);
        // One with a fault does not count, nor one for which there is no room.
        x.text("fee 5+", -106).due("why(1)", 3).due("fee()", 4);
        x.does("keep()").text("fee 6", 4).due("fee()", 6).does("back()").due("why(1)", 3).due("fee()", 4).due("count(4)", 4);
        x.text("hours 7", 4).due("why(1)", 3).due("why(0)", 4);
        fullWithoutTape().text("fee 99", FULL).due("why(1)", 13).due("fee()", 13);
    }
}
