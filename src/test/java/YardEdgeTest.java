/** The edges of the yard's text, of stands, and of promises 1 to 9, each under the document's own words. */
public final class YardEdgeTest extends Due {
    private static final String TEN = "=abc;=abc;=abc;=abc;=abc;=abc;=abc;=abc;=abc;=ab0";
    private static final String[] SIGNS = {"", "=", "~", "^"};

    public static void main(String[] args) {
        switchesOfAYard();
        signs();
        ways();
        places();
        kinds();
        standsFromZero();
        standsOfSwitchAndHeld();
        standsOfSwinging();
        standsOfLazy();
        firstStands();
        turns();
        truckTurnsBehindIt();
        thrown();
        newObject();
        lettersTaken();
        lettersOutside();
        lettersFull();
        blank();
        fault();
        faultMoreMayCome();
        yardReads();
        yardAnother();
        yardNone();
        yardSwitchThatItHasNot();
        aboutEdges();
        aboutRefused();
        asEdges();
        leverEdges();
        anewEdges();
        end("YardEdgeTest");
    }

    /** So many switches of one way each. */
    private static String rowOf(String way, int times) {
        return way + (";" + way).repeat(times - 1);
    }

    private static void switchesOfAYard() {
        sentence("THE YARD is a text: one to ten SWITCHES");
        due("no switch", readOf(""), STATE);
        due("one", readOf("0"), 1);
        due("two", readOf("0;0"), 2);
        due("nine", readOf(rowOf("0", 9)), 9);
        due("ten", readOf(rowOf("0", 10)), 10);
        due("eleven", readOf(rowOf("0", 11)), STATE);
        due("ten of the most letters", readOf(TEN), 10);
        sentence("with \";\" between");
        due("ahead of the first", readOf(";0"), STATE);
        due("behind the last", readOf("0;"), STATE);
        due("behind the tenth", readOf("0;".repeat(10)), STATE);
        due("twice", readOf("0;;0"), STATE);
        due("alone", readOf(";"), STATE);
        due(": instead", readOf("0:0"), STATE);
        due("a blank between", readOf("0; 0"), STATE);
        sentence("lettered a to j in their order");
        due("a is the first", yardOf("a0").about(0, 10), 10);
        PointsThrow x = yardOf("j;0;1;2;3;4;5;6;7;8");
        due("j is the tenth", x.about(0, 10), 19);
        due("a truck comes to j", x.down(), 8);
        due("k is none", readOf("k;0;0;0;0;0;0;0;0;0"), STATE);
    }

    private static void signs() {
        sentence("perhaps a sign, then its WAYS");
        due("none", yardOf("01").about(0, 0), 0);
        for (int kind = 1; kind <= 3; kind++) {
            String sign = SIGNS[kind];
            due("one " + sign, yardOf(sign + "01").about(0, 0), kind);
            due("of the last " + sign, yardOf("0;" + sign + "1").about(1, 0), kind);
            due("two " + sign, readOf(sign + sign + "01"), STATE);
            due("behind the ways " + sign, readOf("01" + sign), STATE);
            due("between the ways " + sign, readOf("0" + sign + "1"), STATE);
        }
        for (char other : "<>}]_!-+".toCharArray()) {
            due("another sign " + other, readOf(other + "01"), STATE);
        }
    }

    private static void ways() {
        sentence("then its WAYS, one to three");
        for (String sign : SIGNS) {
            if (!sign.isEmpty()) {
                due("none " + sign, readOf(sign), STATE);
                due("none, ahead of another " + sign, readOf(sign + ";0"), STATE);
            }
            for (int k = 1; k <= 3; k++) {
                due("ways " + sign + k, yardOf(sign + "012".substring(0, k)).about(0, 1), k);
            }
            due("four " + sign, readOf(sign + "0123"), STATE);
            due("four of the second " + sign, readOf("0;" + sign + "0123"), STATE);
        }
    }

    private static void places() {
        sentence("each a letter (a SWITCH) or a digit (a SIDING 0 to 9)");
        due("siding 0", yardOf("0").about(0, 10), 0);
        due("siding 9", yardOf("9").about(0, 10), 9);
        due("ahead of 0", readOf("/"), STATE);
        due("behind 9", readOf(":"), STATE);
        due("switch a", yardOf("a").about(0, 10), 10);
        due("ahead of a", readOf("`"), STATE);
        due("a capital", readOf("A"), STATE);
        for (int i = 0; i < 10; i++) {
            String text = (char) ('a' + i) + ";0".repeat(9);
            due("switch " + i, yardOf(text).about(0, 10), 10 + i);
        }
        due("a letter and digits", yardOf("9a0").about(0, 11), 10);
    }

    private static void kinds() {
        sentence("Signs tell KINDS: 0 SWITCH (no sign), 1 HELD (\"=\"), 2 SWINGING (\"~\"), 3 LAZY (\"^\").");
        PointsThrow x = yardOf("0;=0;~0;^0");
        for (int i = 0; i < 4; i++) {
            due("kind " + i, x.about(i, 0), i);
        }
        sentence("All are SWITCHES; a LAZY is HELD, too (by the cast alone).");
        for (int i = 0; i < 4; i++) {
            due("a switch " + i, x.as(i, 0), i);
        }
        due("a lazy as held", x.as(3, 1), 3);
        due("a held as lazy", x.as(1, 3), NONE);
        due("its kind stays lazy", x.about(3, 0), 3);
        PointsThrow lazy = yardOf("^01");
        downs("by the cast alone, it turns", lazy, 0, 0, 1, 1, 0);
        due("it is noticed, too", yardOf("^01").noticed(), 3);
    }

    private static void standsAre(String text, int... ways) {
        PointsThrow x = yardOf(text);
        due("stands of " + text, x.about(0, 3), ways.length);
        for (int i = 0; i < ways.length; i++) {
            due(text + " is in stand " + i, x.about(0, 2), i);
            due(text + " points there in stand " + i, x.about(0, 4), ways[i]);
            due(text + " sends a truck there in stand " + i, x.down(), ways[i]);
        }
        due(text + " is in stand 0 again", x.about(0, 2), 0);
        due(text + " points as at first", x.about(0, 4), 0);
    }

    private static void standsFromZero() {
        sentence("A SWITCH of k WAYS stands in one of its STANDS, numbered from 0:");
        int[][] most = {{0, 1, 2}, {0, 0, 0}, {0, 1, 3}, {1, 3, 5}};
        for (int kind = 0; kind < SIGNS.length; kind++) {
            for (int k = 1; k <= 3; k++) {
                PointsThrow x = yardOf(SIGNS[kind] + "012".substring(0, k));
                int seen = 0;
                for (int trucks = 0; trucks < 12; trucks++) {
                    seen |= 1 << x.about(0, 2);
                    x.down();
                }
                due("stands that kind " + kind + " of " + k + " comes to", seen, (2 << most[kind][k - 1]) - 1);
            }
        }
    }

    private static void standsOfSwitchAndHeld() {
        sentence("a SWITCH and a HELD in k of them: STAND i points at WAY i.");
        standsAre("0", 0);
        standsAre("01", 0, 1);
        standsAre("012", 0, 1, 2);
        for (int k = 1; k <= 3; k++) {
            PointsThrow x = yardOf("=" + "012".substring(0, k));
            due("stands of a held of " + k, x.about(0, 3), k);
            for (int i = 0; i < k; i++) {
                x.lever(0, i);
                due("held of " + k + " in " + i, x.about(0, 2), i);
                due("held of " + k + " points at " + i, x.about(0, 4), i);
                due("held of " + k + " sends to " + i, x.down(), i);
            }
        }
    }

    private static void standsOfSwinging() {
        sentence("A SWINGING in 2k - 2 (one, if k is 1): STAND i points at WAY i, if i is below k, "
            + "else at WAY 2k - 2 - i.");
        standsAre("~0", 0);
        standsAre("~01", 0, 1);
        standsAre("~012", 0, 1, 2, 1);
    }

    private static void standsOfLazy() {
        sentence("A LAZY in 2k: STAND i points at WAY i by 2 (rounded down).");
        standsAre("^0", 0, 0);
        standsAre("^01", 0, 0, 1, 1);
        standsAre("^012", 0, 0, 1, 1, 2, 2);
    }

    private static void firstStands() {
        sentence("At first all are in STAND 0.");
        PointsThrow x = yardOf("012;=012;~012;^012;0;=0;~0;^0;~01;^01");
        for (int i = 0; i < 10; i++) {
            due("switch " + i, x.about(i, 2), 0);
        }
        for (int i = 0; i < 4; i++) {
            x.lever(i, 2);
        }
        readNext(x, "012;=012;~012;^012");
        for (int i = 0; i < 4; i++) {
            due("switch " + i + " of another yard", x.about(i, 2), 0);
        }
    }

    private static void turns() {
        sentence("It TURNS: to the next STAND, behind the last one to 0; a HELD stays.");
        String[] texts = {"0", "01", "012", "~0", "~01", "~012", "^0", "^01", "^012"};
        for (String text : texts) {
            PointsThrow x = yardOf(text);
            int stands = x.about(0, 3);
            for (int n = 1; n <= 2 * stands + 1; n++) {
                x.down();
                due(text + " behind " + n, x.about(0, 2), n % stands);
            }
        }
        for (int way = 0; way < 3; way++) {
            PointsThrow held = yardOf("=012");
            held.lever(0, way);
            downs("held in " + way, held, way, way, way, way);
            due("held stays in " + way, held.about(0, 2), way);
        }
    }

    private static void truckTurnsBehindIt() {
        sentence("A TRUCK comes to SWITCH a; from a SWITCH it goes by the WAY that this one points at, which then TURNS; "
            + "in a SIDING it stops.");
        PointsThrow x = yardOf("01;2");
        due("to a, not to b", x.down(), 0);
        due("a turns", x.about(0, 2), 1);
        due("b does not", x.about(1, 2), 0);
        // The same truck comes to a again, which has turned behind it.
        PointsThrow again = yardOf("a12");
        downs("comes again", again, 1, 2, 1, 2);
        due("turned twice by the first and third", again.about(0, 2), 0);
        PointsThrow swinging = yardOf("~aab;^3a");
        due("a, a, b", swinging.moves(), 4);
        due("it stops in 3", swinging.down(), 3);
        due("a turned three times", swinging.about(0, 2), 3);
        due("b once", swinging.about(1, 2), 1);
    }

    private static void thrown() {
        sentence("THROWN by hand to a WAY a SWITCH is in the least STAND that points at it.");
        int[][] least = {{0, 1, 2}, {0, 1, 2}, {0, 1, 2}, {0, 2, 4}};
        for (int kind = 0; kind < 4; kind++) {
            for (int way = 0; way < 3; way++) {
                PointsThrow x = yardOf(SIGNS[kind] + "012");
                for (int from = 0; from < x.about(0, 3); from++) {
                    x.anew();
                    sent(x, kind == 1 ? 0 : from);
                    due(SIGNS[kind] + " was in", x.lever(0, way), kind == 1 ? 0 : from);
                    due(SIGNS[kind] + " is in", x.about(0, 2), least[kind][way]);
                    due(SIGNS[kind] + " points at", x.about(0, 4), way);
                }
            }
        }
        PointsThrow one = sent(yardOf("^7"), 1);
        due("a lazy of one way, from 1", one.lever(0, 0), 1);
        due("to 0", one.about(0, 2), 0);
    }

    private static void newObject() {
        sentence("`PointsThrow()`: No YARD, nothing WANTED.");
        PointsThrow x = new PointsThrow();
        due("no switch", x.count(0), 0);
        due("no truck", x.count(1), 0);
        due("nothing wanted", x.count(2), 0);
        due("the page is empty", x.count(3), 0);
        due("no yard was read", x.count(4), 0);
        due("nothing was planned", x.count(5), 0);
        due("no switch is known", x.about(0, 0), UNKNOWN);
        due("it is not straight or not", x.straight(), STATE);
        due("nothing to clear", x.clear(), 0);
        due("no letter to take away", x.blank(), 0);
        due("no place of a fault", x.fault(), 0);
        due("no image", x.restore(), STATE);
        yardOf("01").down();
        due("another object is not this one", new PointsThrow().count(0), 0);
    }

    private static void lettersTaken() {
        sentence("Letters come behind THE PAGE, up to eight, told by their codes in the bytes of w, the lowest byte first, "
            + "until a byte that is 0: how many THE PAGE has.");
        PointsThrow x = new PointsThrow();
        due("none", x.letters(0L), 0);
        due("none were put", x.digest(), new PointsThrow().digest());
        for (int n = 1; n <= 8; n++) {
            due("so many at once", new PointsThrow().letters(pack("012;012;".substring(0, n))), n);
        }
        due("first three", x.letters(pack("01;")), 3);
        due("behind these", x.letters(pack("=23;~45;")), 11);
        due("the eighth counts", x.letters(pack("6")), 12);
        due("in their order", x.yard(), 4);
        due("the first byte is the first letter", x.about(0, 10), 0);
        due("the second", x.about(0, 11), 1);
        due("the sign is ahead", x.about(1, 0), 1);
        due("the third switch", x.about(2, 11), 5);
    }

    private static void lettersOutside() {
        sentence("OUTSIDE: a byte above 126, or one behind a 0 that is not 0");
        due("code 1", new PointsThrow().letters(1L), 1);
        due("code 126", new PointsThrow().letters(126L), 1);
        due("code 126 in all", new PointsThrow().letters(0x7e7e7e7e7e7e7e7eL), 8);
        for (int k = 0; k < 8; k++) {
            for (long code : new long[] {127, 128, 255}) {
                long w = 0x6161616161616161L & ~(255L << 8 * k) | code << 8 * k;
                quiet("byte " + k + " is " + code, OUTSIDE, () -> pageOf("01"), x -> x.letters(w));
            }
            long zero = 0x6161616161616161L & ~(255L << 8 * k);
            if (k < 7) {
                quiet("byte " + k + " is 0", OUTSIDE, () -> pageOf("01"), x -> x.letters(zero));
            }
        }
        due("only the eighth is 0", new PointsThrow().letters(0x0061616161616161L), 7);
        quiet("the lowest is 0", OUTSIDE, () -> pageOf("01"), x -> x.letters(0x6100L));
        quiet("the highest alone", OUTSIDE, () -> pageOf("01"), x -> x.letters(0x0100000000000000L));
        quiet("1 behind two 0", OUTSIDE, () -> pageOf("01"), x -> x.letters(0x01000061L));
        quiet("all bytes 255", OUTSIDE, () -> pageOf("01"), x -> x.letters(-1L));
        quiet("the most", OUTSIDE, () -> pageOf("01"), x -> x.letters(Long.MAX_VALUE));
        quiet("the least", OUTSIDE, () -> pageOf("01"), x -> x.letters(Long.MIN_VALUE));
    }

    private static void lettersFull() {
        sentence("FULL: above 50.");
        due("49", pageOf("0".repeat(48)).letters(pack("0")), 49);
        due("50 by one", pageOf("0".repeat(49)).letters(pack("0")), 50);
        due("50 by eight", pageOf("0".repeat(42)).letters(pack("00000000")), 50);
        quiet("51 by one", FULL, () -> pageOf("0".repeat(50)), x -> x.letters(pack("0")));
        quiet("51 by two", FULL, () -> pageOf("0".repeat(49)), x -> x.letters(pack("00")));
        quiet("51 by eight, none of them comes", FULL, () -> pageOf("0".repeat(43)), x -> x.letters(pack("12345678")));
        quiet("58", FULL, () -> pageOf("0".repeat(50)), x -> x.letters(pack("00000000")));
        quiet("none come to a full one", 50, () -> pageOf("0".repeat(50)), x -> x.letters(0L));
        quiet("of several the first", OUTSIDE, () -> pageOf("0".repeat(50)), x -> x.letters(127L));
        quiet("of several the first, behind a 0", OUTSIDE, () -> pageOf("0".repeat(50)), x -> x.letters(0x6100L));
        PointsThrow x = pageOf("0".repeat(50));
        x.blank();
        due("empty again", x.letters(pack("01")), 2);
    }

    private static void blank() {
        sentence("`int blank()`: THE PAGE is empty: how many letters it had.");
        due("an empty one", new PointsThrow().blank(), 0);
        due("one", pageOf("0").blank(), 1);
        PointsThrow x = pageOf("0".repeat(50));
        due("a full one", x.blank(), 50);
        due("then it is empty", x.blank(), 0);
        due("none of it is told", x.digest(), new PointsThrow().digest());
        write(x, "12");
        due("what comes then is the first", x.yard(), 1);
        due("its way", x.about(0, 10), 1);
        for (String gone : new String[] {"0j", "0;", "0?", "0=", "00000000"}) {
            PointsThrow y = pageOf(gone);
            y.blank();
            write(y, "7");
            due("no letter of " + gone + " is a fault", y.fault(), 1);
            due("nor read", y.yard(), 1);
            due("nor a way", y.about(0, 1), 1);
        }
    }

    private static void fault() {
        sentence("The place (from 0) of the first letter of THE PAGE that no YARD has there, behind those ahead of it");
        due("the first", faultOf("?01"), 0);
        due("of two the first", faultOf("0?1?"), 1);
        due("the last", faultOf("01;2?"), 4);
        due("the 50th", faultOf(TEN + ";"), 49);
        due("the 50th, a fourth way", faultOf(TEN + "0"), 49);
        due("; first", faultOf(";0"), 0);
        due("; twice", faultOf("0;;"), 2);
        due("; behind a sign", faultOf("=;"), 1);
        due("; behind ten", faultOf(rowOf("0", 10) + ";"), 19);
        due("; behind nine", faultOf(rowOf("0", 9) + ";"), 18);
        for (int kind = 1; kind <= 3; kind++) {
            due("a second sign", faultOf(SIGNS[kind] + SIGNS[kind]), 1);
            due("a second sign of the second", faultOf("0;" + SIGNS[kind] + "="), 3);
            due("a sign behind a way", faultOf("0" + SIGNS[kind]), 1);
            due("a sign behind three ways", faultOf("000" + SIGNS[kind]), 3);
            due("a fourth way behind a sign", faultOf(SIGNS[kind] + "0000"), 4);
        }
        due("a fourth way", faultOf("0000"), 3);
        due("a fourth way of the second", faultOf("000;0000"), 7);
        due("a fourth letter", faultOf("aaaa"), 3);
        for (int code = 1; code <= 126; code++) {
            boolean begins = "=~^0123456789abcdefghij".indexOf(code) >= 0;
            boolean goesOn = ";0123456789abcdefghij".indexOf(code) >= 0;
            due("code " + code + " first", faultOf(String.valueOf((char) code)), begins ? 1 : 0);
            due("code " + code + " behind a way", faultOf("0" + (char) code), goesOn ? 2 : 1);
        }
        quiet("it changes nothing", 1, () -> pageOf("0?"), PointsThrow::fault);
    }

    private static void faultMoreMayCome() {
        sentence("(any letter a to j may stand for a SWITCH, as more of them may come); "
            + "how many letters it has, if there is none.");
        due("nothing", faultOf(""), 0);
        due("j alone", faultOf("j"), 1);
        due("k alone", faultOf("k"), 0);
        due("j of nine", faultOf(rowOf("j", 9)), 17);
        due("a yard", faultOf("01;=2"), 5);
        due("not yet one, a ;", faultOf("01;"), 3);
        due("not yet one, a sign", faultOf("01;^"), 4);
        due("the longest", faultOf(TEN), 49);
        due("one short of the longest", faultOf(TEN.substring(0, 48)), 48);
    }

    private static void yardReads() {
        sentence("`int yard()`: THE PAGE is read as THE YARD (another one is gone, with all TRUCKS): how many SWITCHES; "
            + "THE PAGE is empty then.");
        PointsThrow x = pageOf("01;2");
        due("two switches", x.yard(), 2);
        due("the page is empty", x.count(3), 0);
        due("so it is read once", x.yard(), STATE);
        due("a letter is the first then", x.letters(pack("0")), 1);
        PointsThrow longest = pageOf(TEN);
        due("of 49 letters", longest.yard(), 10);
        due("its last way", longest.about(9, 12), 0);
    }

    private static void yardAnother() {
        sentence("(another one is gone, with all TRUCKS)");
        PointsThrow x = sent(yardOf("0;1;2;3;4;5;6;7;8;9"), 60);
        readNext(x, "~98");
        due("no truck", x.count(1), 0);
        due("none in its siding", x.many(0), 0);
        due("none is the first there", x.truck(0, 0), NONE);
        due("only its switches", x.about(1, 0), UNKNOWN);
        due("its kind", x.about(0, 0), 2);
        due("it is not full", x.down(), 9);
        due("numbered from 0", x.truck(9, 0), 0);
        readNext(x, "0;1");
        due("more switches than ahead", x.about(1, 10), 1);
        due("so many were read", x.count(4), 3);
    }

    private static void yardNone() {
        sentence("STATE: it is none (a SWITCH that it has not, too).");
        String[] none = {"", ";", "0;", "=", "0;=", "=;0", "0123", "=~0", "0=", "k", " ", "0 ", "0".repeat(50),
            rowOf("0", 11), "0;".repeat(10), TEN + "0"};
        for (String text : none) {
            quiet("\"" + text + "\"", STATE, () -> pageOf(text), PointsThrow::yard);
            quiet("\"" + text + "\" behind a yard", STATE, () -> {
                PointsThrow x = sent(wanting("012;=3", 1), 2);
                x.image();
                sent(x, 2);
                write(x, text);
                return x;
            }, PointsThrow::yard);
        }
    }

    private static void yardSwitchThatItHasNot() {
        sentence("(a SWITCH that it has not, too)");
        for (int size = 1; size <= 9; size++) {
            String others = ";0".repeat(size - 1);
            char last = (char) ('a' + size - 1);
            char next = (char) ('a' + size);
            due("the last of " + size, readOf(last + others), size);
            quiet("one more than " + size, STATE, () -> pageOf(next + others), PointsThrow::yard);
            due("j of " + size, readOf("j" + others), STATE);
        }
        quiet("by the last way of the last", STATE, () -> pageOf("0;=01c"), PointsThrow::yard);
        PointsThrow x = pageOf("0;=01c");
        x.yard();
        write(x, ";2");
        due("when it comes it is one", x.yard(), 3);
    }

    private static PointsThrow kindsOfThree() {
        return sent(yardOf("b12;=c34;~d56;^78"), 3);
    }

    private static void aboutEdges() {
        sentence("Of a SWITCH: what = 0 KIND, 1 how many WAYS, 2 its STAND, 3 how many STANDS, 4 the WAY that it points at "
            + "(a number from 0), 10 to 12 where the so-manieth WAY leads "
            + "(0 to 9 a SIDING, 10 and more a SWITCH; NONE: there is none).");
        PointsThrow x = yardOf("~j09;a;0;0;0;0;0;0;0;^ab");
        // The first truck comes to a, j and a again, the second to a alone.
        sent(x, 2);
        int[] first = {2, 3, 3, 4, 1};
        int[] last = {3, 2, 1, 4, 0};
        for (int what = 0; what <= 4; what++) {
            due("a, " + what, x.about(0, what), first[what]);
            due("j, " + what, x.about(9, what), last[what]);
        }
        due("to j", x.about(0, 10), 19);
        due("to 0", x.about(0, 11), 0);
        due("to 9", x.about(0, 12), 9);
        due("to a", x.about(9, 10), 10);
        due("the second of two", x.about(9, 11), 11);
        due("no third of two", x.about(9, 12), NONE);
        due("the first of one", x.about(1, 10), 10);
        due("no second of one", x.about(1, 11), NONE);
        due("no third of one", x.about(1, 12), NONE);
    }

    private static void aboutRefused() {
        sentence("UNKNOWN (without a YARD, too); OUTSIDE.");
        for (int point : new int[] {LEAST, -1, 0, 1, 9, 10, MOST}) {
            quiet("without a yard " + point, UNKNOWN, PointsThrow::new, x -> x.about(point, 0));
        }
        for (int point : new int[] {LEAST, -1, 4, 5, 9, 10, MOST}) {
            quiet("no switch " + point, UNKNOWN, YardEdgeTest::kindsOfThree, x -> x.about(point, 0));
            quiet("of several the first " + point, UNKNOWN, YardEdgeTest::kindsOfThree, x -> x.about(point, 5));
        }
        for (int what : new int[] {LEAST, -1, 5, 6, 9, 13, 14, MOST}) {
            quiet("what " + what, OUTSIDE, YardEdgeTest::kindsOfThree, x -> x.about(3, what));
        }
        due("the last switch", kindsOfThree().about(3, 0), 3);
        due("no eleventh", yardOf(TEN).about(10, 0), UNKNOWN);
        due("the tenth", yardOf(TEN).about(9, 12), 0);
    }

    private static void asEdges() {
        sentence("A SWITCH taken as a KIND: its number; NONE: it is none such (the cast fails). UNKNOWN; OUTSIDE.");
        boolean[][] can = {{true, false, false, false}, {true, true, false, false}, {true, false, true, false},
            {true, true, false, true}};
        for (int point = 0; point < 4; point++) {
            for (int kind = 0; kind < 4; kind++) {
                int own = point;
                int asked = kind;
                quiet(point + " as " + kind, can[point][kind] ? point : NONE, YardEdgeTest::kindsOfThree,
                    x -> x.as(own, asked));
            }
        }
        quiet("without a yard", UNKNOWN, PointsThrow::new, x -> x.as(0, 0));
        for (int point : new int[] {LEAST, -1, 4, 10, MOST}) {
            quiet("no switch " + point, UNKNOWN, YardEdgeTest::kindsOfThree, x -> x.as(point, 0));
            quiet("of several the first " + point, UNKNOWN, YardEdgeTest::kindsOfThree, x -> x.as(point, 4));
        }
        for (int kind : new int[] {LEAST, -1, 4, 5, MOST}) {
            quiet("no kind " + kind, OUTSIDE, YardEdgeTest::kindsOfThree, x -> x.as(0, kind));
        }
        due("the tenth", yardOf(TEN).as(9, 1), 9);
        due("no eleventh", yardOf(TEN).as(10, 1), UNKNOWN);
    }

    private static void leverEdges() {
        sentence("`int lever(int point, int way)`: A SWITCH is THROWN to a WAY: which STAND it was in. UNKNOWN; OUTSIDE.");
        for (int k = 1; k <= 3; k++) {
            String text = "~" + "012".substring(0, k);
            int last = k - 1;
            int beyond = k;
            due("the last way of " + k, yardOf(text).lever(0, last), 0);
            quiet("one more than " + k, OUTSIDE, () -> yardOf(text), x -> x.lever(0, beyond));
            quiet("one below " + k, OUTSIDE, () -> yardOf(text), x -> x.lever(0, -1));
            quiet("the most of " + k, OUTSIDE, () -> yardOf(text), x -> x.lever(0, MOST));
            quiet("the least of " + k, OUTSIDE, () -> yardOf(text), x -> x.lever(0, LEAST));
        }
        quiet("without a yard", UNKNOWN, PointsThrow::new, x -> x.lever(0, 0));
        for (int point : new int[] {LEAST, -1, 4, 10, MOST}) {
            quiet("no switch " + point, UNKNOWN, YardEdgeTest::kindsOfThree, x -> x.lever(point, 0));
            quiet("of several the first " + point, UNKNOWN, YardEdgeTest::kindsOfThree, x -> x.lever(point, 3));
        }
        PointsThrow x = yardOf("012;345");
        due("a truck", x.down(), 0);
        due("a was in 1", x.lever(0, 0), 1);
        due("only a is thrown", x.about(1, 2), 0);
        due("no truck is gone", x.many(0), 1);
        due("the last switch", x.lever(1, 2), 0);
        due("it was in 2", x.lever(1, 2), 2);
    }

    private static void anewEdges() {
        sentence("`int anew()`: All SWITCHES are in STAND 0, all SIDINGS are empty: how many TRUCKS there were. STATE.");
        quiet("without a yard", STATE, PointsThrow::new, PointsThrow::anew);
        due("no truck", yardOf("01").anew(), 0);
        PointsThrow x = sent(yardOf("012;=34;~567;^89"), 60);
        for (int i = 1; i < 4; i++) {
            x.lever(i, 1);
        }
        x.want(7);
        x.letters(pack("ab"));
        due("all sixty", x.anew(), 60);
        for (int i = 0; i < 4; i++) {
            due("stand of " + i, x.about(i, 2), 0);
        }
        for (int s = 0; s < 10; s++) {
            due("siding " + s, x.many(s), 0);
            due("none in siding " + s, x.truck(s, 0), NONE);
        }
        due("none then", x.anew(), 0);
        due("it is not full", x.down(), 0);
        due("numbered from 0", x.truck(0, 0), 0);
        due("wanted stay", x.count(2), 1);
        due("the page stays", x.count(3), 2);
        due("the yard was read once", x.count(4), 1);
    }
}
