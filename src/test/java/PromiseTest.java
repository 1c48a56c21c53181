/** Each promise of the document by hand: ordinary inputs, the edges that it names, wrong inputs. */
public final class PromiseTest extends Due {
    public static void main(String[] args) {
        constants();
        newObject();
        letters();
        blank();
        fault();
        yard();
        yardRefused();
        about();
        as();
        lever();
        anew();
        down();
        many();
        truck();
        moves();
        round();
        straight();
        nth();
        behind();
        ago();
        want();
        clear();
        begin();
        beginRefused();
        hands();
        handsRefused();
        empty();
        which();
        noticed();
        apart();
        image();
        restore();
        count();
        digest();
        refusalsChangeNothing();
        end("PromiseTest");
    }

    private static void constants() {
        due("NONE", NONE, -1);
        due("UNKNOWN", UNKNOWN, -101);
        due("OUTSIDE", OUTSIDE, -102);
        due("STATE", STATE, -103);
        due("FULL", FULL, -104);
    }

    private static void newObject() {
        PointsThrow x = new PointsThrow();
        for (int what = 0; what <= 5; what++) {
            due("1 new count " + what, x.count(what), 0);
        }
        due("1 new straight", x.straight(), STATE);
        due("1 new clear", x.clear(), 0);
        due("1 new blank", x.blank(), 0);
        due("1 new restore", x.restore(), STATE);
    }

    private static void letters() {
        PointsThrow x = new PointsThrow();
        due("2 none", x.letters(0L), 0);
        due("2 three", x.letters(pack("bc;")), 3);
        due("2 eight", x.letters(pack("d12;=3d;")), 11);
        due("2 lowest byte first", x.fault(), 11);
        due("2 code 126 and code 1", x.letters(126L | 1L << 8), 13);
        due("2 code 127", x.letters(127L), OUTSIDE);
        due("2 code 128 in the eighth", x.letters(0x8061616161616161L), OUTSIDE);
        due("2 behind a 0", x.letters(0x6100L), OUTSIDE);
        due("2 behind a 0, later", x.letters(0x6100000000000061L), OUTSIDE);
        due("2 all bytes", x.letters(-1L), OUTSIDE);
        due("2 as it was", x.count(3), 13);
        for (int i = 0; i < 4; i++) {
            x.letters(pack("aaaaaaaa"));
        }
        due("2 up to 49", x.letters(pack("aaaa")), 49);
        due("2 above 50", x.letters(pack("aa")), FULL);
        due("2 OUTSIDE ahead of FULL", x.letters(pack("aa") | 200L << 16), OUTSIDE);
        due("2 50", x.letters(pack("a")), 50);
        due("2 full, but none come", x.letters(0L), 50);
        due("2 51", x.letters(pack("a")), FULL);
        due("2 still 50", x.count(3), 50);
    }

    private static void blank() {
        PointsThrow x = yardOf("01");
        x.letters(pack("abc"));
        due("3 three", x.blank(), 3);
        due("3 none", x.blank(), 0);
        due("3 count", x.count(3), 0);
        due("3 the yard stays", x.count(0), 1);
        due("3 anew", x.letters(pack("0")), 1);
        due("3 read", x.yard(), 1);
    }

    private static void fault() {
        due("4 nothing", faultOf(""), 0);
        due("4 a yard", faultOf("bc;d12;=3d;^45"), 14);
        due("4 not yet whole", faultOf("bc;"), 3);
        due("4 a sign alone", faultOf("~"), 1);
        due("4 a switch that may come", faultOf("j"), 1);
        due("4 k", faultOf("ak"), 1);
        due("4 a capital", faultOf("A"), 0);
        due("4 ; first", faultOf(";a"), 0);
        due("4 ;;", faultOf("a;;"), 2);
        due("4 ; behind a sign", faultOf("a;=;"), 3);
        due("4 two signs", faultOf("=~0"), 1);
        due("4 a sign behind a way", faultOf("0=1"), 1);
        due("4 four ways", faultOf("=0123"), 4);
        due("4 four ways without a sign", faultOf("0123"), 3);
        due("4 below and above", faultOf("/"), 0);
        due("4 :", faultOf(":"), 0);
        due("4 `", faultOf("`"), 0);
        due("4 ten", faultOf("0;0;0;0;0;0;0;0;0;0"), 19);
        due("4 eleven", faultOf("0;0;0;0;0;0;0;0;0;0;0"), 19);
        due("4 the longest", faultOf("=abc;=abc;=abc;=abc;=abc;=abc;=abc;=abc;=abc;=abc"), 49);
        due("4 one more", faultOf("=abc;=abc;=abc;=abc;=abc;=abc;=abc;=abc;=abc;=abcd"), 49);
    }

    private static void yard() {
        PointsThrow x = yardOf("01;2");
        due("5 the page is empty", x.count(3), 0);
        downs("5", x, 0, 1, 0);
        x.image();
        x.want(4);
        x.lever(0, 1);
        write(x, "~98");
        due("5 another", x.yard(), 1);
        due("5 without trucks", x.count(1), 0);
        due("5 none in the siding", x.many(0), 0);
        due("5 in stand 0", x.about(0, 2), 0);
        due("5 its way", x.about(0, 10), 9);
        due("5 only its switches", x.about(1, 0), UNKNOWN);
        due("5 wanted stay", x.count(2), 1);
        due("5 the image is of another yard", x.restore(), STATE);
        due("5 read twice", x.count(4), 2);
        downs("5 numbered anew", x, 9);
        due("5 truck 0", x.truck(9, 0), 0);
        due("5 ten", readOf("j;j;j;j;j;j;j;j;j;9"), 10);
    }

    private static void yardRefused() {
        due("5 nothing", readOf(""), STATE);
        due("5 b is none", readOf("b"), STATE);
        due("5 c is none", readOf("ab;0c"), STATE);
        due("5 not whole", readOf("a;"), STATE);
        due("5 a sign alone", readOf("a;^"), STATE);
        due("5 four ways", readOf("0000"), STATE);
        due("5 eleven", readOf("0;0;0;0;0;0;0;0;0;0;0"), STATE);
        PointsThrow x = yardOf("01");
        x.down();
        x.image();
        write(x, "b");
        due("5 refused", x.yard(), STATE);
        due("5 the page stays", x.count(3), 1);
        due("5 the yard stays", x.about(0, 11), 1);
        due("5 its trucks stay", x.many(0), 1);
        due("5 its image stays", x.restore(), 1);
        due("5 read once", x.count(4), 1);
        write(x, ";0");
        due("5 more come", x.yard(), 2);
    }

    private static void about() {
        due("6 no yard", new PointsThrow().about(0, 0), UNKNOWN);
        PointsThrow x = yardOf("bcd;=0a;~123;^45;~7;~12;^j;0;1;2");
        int[] kinds = {0, 1, 2, 3, 2, 2, 3, 0, 0, 0};
        int[] ways = {3, 2, 3, 2, 1, 2, 1, 1, 1, 1};
        int[] stands = {3, 2, 4, 4, 1, 2, 2, 1, 1, 1};
        for (int i = 0; i < 10; i++) {
            due("6 kind " + i, x.about(i, 0), kinds[i]);
            due("6 ways " + i, x.about(i, 1), ways[i]);
            due("6 stand " + i, x.about(i, 2), 0);
            due("6 stands " + i, x.about(i, 3), stands[i]);
            due("6 points at " + i, x.about(i, 4), 0);
        }
        due("6 to b", x.about(0, 10), 11);
        due("6 to d", x.about(0, 12), 13);
        due("6 to a", x.about(1, 11), 10);
        due("6 to j", x.about(6, 10), 19);
        due("6 no third", x.about(1, 12), NONE);
        due("6 to 3", x.about(2, 12), 3);
        for (int what : new int[] {-1, 5, 9, 13, LEAST, MOST}) {
            due("6 what " + what, x.about(0, what), OUTSIDE);
        }
        due("6 the eleventh", x.about(10, 0), UNKNOWN);
        due("6 point -1, of several the first", x.about(-1, 99), UNKNOWN);
        due("6 the least", x.about(LEAST, 0), UNKNOWN);
        due("6 the most", x.about(MOST, 0), UNKNOWN);
        aboutStands();
    }

    private static void aboutStands() {
        PointsThrow swinging = yardOf("~123");
        int[] points = {0, 1, 2, 1, 0};
        for (int i = 0; i < points.length; i++) {
            due("6 swinging stand " + i, swinging.about(0, 2), i % 4);
            due("6 swinging points at " + i, swinging.about(0, 4), points[i]);
            swinging.down();
        }
        PointsThrow lazy = yardOf("^12");
        for (int i = 0; i < 6; i++) {
            due("6 lazy stand " + i, lazy.about(0, 2), i % 4);
            due("6 lazy points at " + i, lazy.about(0, 4), i % 4 / 2);
            lazy.down();
        }
    }

    private static void as() {
        due("7 no yard", new PointsThrow().as(0, 0), UNKNOWN);
        PointsThrow x = yardOf("0;=0;~0;^0");
        int[][] taken = {{0, -1, -1, -1}, {1, 1, -1, -1}, {2, -1, 2, -1}, {3, 3, -1, 3}};
        for (int i = 0; i < 4; i++) {
            for (int kind = 0; kind < 4; kind++) {
                due("7 " + i + " as " + kind, x.as(i, kind), taken[i][kind]);
            }
        }
        due("7 kind 4", x.as(0, 4), OUTSIDE);
        due("7 kind -1", x.as(0, -1), OUTSIDE);
        due("7 kind most", x.as(0, MOST), OUTSIDE);
        due("7 point 4, of several the first", x.as(4, 4), UNKNOWN);
        due("7 point -1", x.as(-1, 0), UNKNOWN);
    }

    private static void lever() {
        due("8 no yard", new PointsThrow().lever(0, 0), UNKNOWN);
        PointsThrow x = yardOf("123;=123;~123;^123");
        for (int i = 0; i < 4; i++) {
            due("8 was in 0, " + i, x.lever(i, 2), 0);
            due("8 stand, " + i, x.about(i, 2), i == 3 ? 4 : 2);
            due("8 points at, " + i, x.about(i, 4), 2);
        }
        due("8 was in 4", x.lever(3, 1), 4);
        due("8 in 2", x.about(3, 2), 2);
        due("8 no way 3", x.lever(0, 3), OUTSIDE);
        due("8 no way -1", x.lever(0, -1), OUTSIDE);
        due("8 no way at all", x.lever(0, LEAST), OUTSIDE);
        due("8 no switch 4, of several the first", x.lever(4, 9), UNKNOWN);
        due("8 no switch -1", x.lever(-1, 0), UNKNOWN);
        due("8 as it was", x.about(0, 2), 2);
        due("8 no second way", yardOf("0").lever(0, 1), OUTSIDE);
        PointsThrow swinging = yardOf("~123");
        downs("8", swinging, 1, 2, 3);
        due("8 in stand 3", swinging.lever(0, 1), 3);
        due("8 the least that points there", swinging.about(0, 2), 1);
        downs("8 goes on from there", swinging, 2, 3, 2, 1);
        PointsThrow lazy = yardOf("^12");
        downs("8", lazy, 1);
        due("8 points there already", lazy.lever(0, 0), 1);
        downs("8 twice again", lazy, 1, 1, 2);
    }

    private static void anew() {
        due("9 no yard", new PointsThrow().anew(), STATE);
        PointsThrow x = yardOf("0b;=12");
        downs("9", x, 0, 1, 0);
        x.lever(1, 1);
        x.want(3);
        due("9 three trucks", x.anew(), 3);
        due("9 none then", x.anew(), 0);
        due("9 a", x.about(0, 2), 0);
        due("9 b", x.about(1, 2), 0);
        due("9 siding 0", x.many(0), 0);
        due("9 wanted stay", x.count(2), 1);
        downs("9 again", x, 0, 1);
        due("9 numbered anew", x.truck(1, 0), 1);
    }

    private static void down() {
        due("10 no yard", new PointsThrow().down(), STATE);
        downs("10 switch", yardOf("123"), 1, 2, 3, 1, 2);
        downs("10 held", yardOf("=123"), 1, 1, 1);
        downs("10 swinging", yardOf("~123"), 1, 2, 3, 2, 1, 2);
        downs("10 swinging by two", yardOf("~12"), 1, 2, 1, 2);
        downs("10 swinging by one", yardOf("~5"), 5, 5);
        downs("10 lazy", yardOf("^123"), 1, 1, 2, 2, 3, 3, 1);
        downs("10 the document's first yard", yardOf("bc;d12;=3d;^45"), 4, 3, 1, 3, 2, 3, 4, 3, 1);
        downs("10 back to a", yardOf("a0"), 0, 0);
        downs("10 for good by a", yardOf("a"), NONE, NONE);
        PointsThrow x = yardOf("0b;b");
        downs("10 goes round", x, 0, NONE, NONE);
        due("10 not let down", x.count(1), 1);
        due("10 all stands as ahead", x.about(0, 2), 1);
        x.lever(0, 0);
        downs("10 goes on", x, 0);
        due("10 numbered by those let down", x.truck(0, 1), 1);
        for (int i = 0; i < 58; i++) {
            x.lever(0, 0);
            due("10 up to 60", x.down(), 0);
        }
        due("10 the 61st", x.down(), FULL);
        due("10 sixty", x.count(1), 60);
        x.lever(0, 0);
        due("10 full", x.down(), FULL);
        due("10 does not turn then", x.about(0, 2), 0);
    }

    private static void many() {
        due("11 no yard", new PointsThrow().many(0), 0);
        due("11 no yard, no siding", new PointsThrow().many(10), UNKNOWN);
        PointsThrow x = yardOf("099");
        downs("11", x, 0, 9, 9, 0, 9);
        due("11 siding 0", x.many(0), 2);
        due("11 siding 9", x.many(9), 3);
        due("11 siding 5", x.many(5), 0);
        due("11 siding 10", x.many(10), UNKNOWN);
        due("11 siding -1", x.many(-1), UNKNOWN);
        due("11 the least", x.many(LEAST), UNKNOWN);
    }

    private static void truck() {
        due("12 no yard", new PointsThrow().truck(0, 0), NONE);
        PointsThrow x = yardOf("099");
        downs("12", x, 0, 9, 9, 0, 9);
        due("12 0", x.truck(0, 0), 0);
        due("12 3", x.truck(0, 1), 3);
        due("12 4", x.truck(9, 2), 4);
        due("12 none", x.truck(9, 3), NONE);
        due("12 none, the last", x.truck(9, 59), NONE);
        due("12 i 60", x.truck(9, 60), OUTSIDE);
        due("12 i -1", x.truck(9, -1), OUTSIDE);
        due("12 siding 10, of several the first", x.truck(10, 60), UNKNOWN);
        due("12 siding -1", x.truck(-1, 0), UNKNOWN);
        PointsThrow all = yardOf("7");
        for (int i = 0; i < 60; i++) {
            all.down();
        }
        due("12 the 60th", all.truck(7, 59), 59);
    }

    /** The yards with some 500 moves were found by trying: they stop behind 499, 500 and 501. */
    private static void moves() {
        due("13 no yard", new PointsThrow().moves(), STATE);
        PointsThrow x = yardOf("bc;d12;=3d;^45");
        due("13 a, b, d", x.moves(), 3);
        due("13 nothing moved", x.moves(), 3);
        due("13 nor turned", x.about(0, 2), 0);
        due("13 nor stands there", x.count(1), 0);
        x.down();
        due("13 a, c", x.moves(), 2);
        due("13 one", yardOf("0").moves(), 1);
        due("13 round for good", yardOf("a").moves(), 500);
        due("13 six", yardOf("b;c;a0").moves(), 6);
        due("13 twice by itself", yardOf("aa0").moves(), 3);
        due("13 499", yardOf("~ib;=a;jgi;gc;a;fh;abd;bg;ih;ef0").moves(), 499);
        PointsThrow last = yardOf("~f;aah;f;iai;~dca;fb;b;eac;fc0");
        due("13 500", last.moves(), 500);
        due("13 500, no round", last.round(), NONE);
        due("13 500, a siding", last.down(), 0);
        PointsThrow late = yardOf("da;=hjc;~jbh;i;~fga;~ib;cb;~ae;f;ig0");
        due("13 501 are too many", late.moves(), 500);
        due("13 501, no round", late.round(), NONE);
        due("13 501, not let down", late.down(), NONE);
        due("13 501, none stands there", late.count(1), 0);
        due("13 501, stands as ahead", late.about(0, 2), 0);
    }

    private static void round() {
        due("14 no yard", new PointsThrow().round(), STATE);
        due("14 does not", yardOf("0").round(), NONE);
        due("14 by itself", yardOf("a").round(), 1);
        due("14 two", yardOf("b;a").round(), 2);
        due("14 stands come again, too", yardOf("aaa").round(), 3);
        due("14 lazy", yardOf("^aaa").round(), 6);
        due("14 swinging", yardOf("~aaa").round(), 4);
        due("14 held", yardOf("=aaa").round(), 1);
        // Each visit of b or c is every second of a: (2 + 2) * lcm of what a, b, c need.
        due("14 three together", yardOf("bc;aaa;^aa").round(), 48);
        due("14 ahead of it by another", yardOf("ab;b").round(), 1);
        due("14 p 500", yardOf("~edb;ac;aad;de;^dcb").round(), 500);
        due("14 p 501 is none", yardOf("ec;fdd;~ae;eef;cff;bc").round(), NONE);
        PointsThrow y = yardOf("=ab;0");
        due("14 held to itself", y.round(), 1);
        due("14 nothing turned", y.about(0, 2), 0);
        y.lever(0, 1);
        due("14 thrown", y.round(), NONE);
    }

    private static void straight() {
        due("15 no yard", new PointsThrow().straight(), STATE);
        due("15 one", yardOf("0").straight(), 1);
        due("15 itself", yardOf("0a").straight(), 0);
        due("15 a tree", yardOf("bc;01;23").straight(), 1);
        due("15 two ways to one", yardOf("bc;d0;d1;23").straight(), 1);
        due("15 behind itself", yardOf("c0;12;b").straight(), 1);
        due("15 back by the last", yardOf("b0;c0;d0;b0").straight(), 0);
        due("15 a loop that no truck can come to", yardOf("0;c;b").straight(), 1);
        due("15 one by a held that points elsewhere", yardOf("=0b;b").straight(), 0);
        due("15 back to a", yardOf("0b;1a").straight(), 0);
        due("15 all ten", yardOf("b;c;d;e;f;g;h;i;j;0").straight(), 1);
    }

    private static void nth() {
        due("16 no yard", new PointsThrow().nth(1), STATE);
        due("16 no yard, of several the first", new PointsThrow().nth(0), STATE);
        PointsThrow x = yardOf("bc;d12;=3d;^45");
        int[] stops = {4, 3, 1, 3, 2, 3, 4, 3, 1};
        for (int n = 1; n <= stops.length; n++) {
            due("16 nth " + n, x.nth(n), stops[n - 1]);
        }
        due("16 nothing moved", x.about(0, 2), 0);
        due("16 n 0", x.nth(0), OUTSIDE);
        due("16 n 1000001", x.nth(1000001), OUTSIDE);
        due("16 n least", x.nth(LEAST), OUTSIDE);
        // 1000000 is 1 above a multiple of 3, and 4 above one of 6.
        due("16 the millionth of 3", yardOf("123").nth(1000000), 1);
        due("16 the millionth of 6", yardOf("^123").nth(1000000), 2);
        due("16 the millionth of 4", yardOf("~123").nth(1000000), 2);
        due("16 not straight", yardOf("0a").nth(1), STATE);
        due("16 not straight, of several the first", yardOf("0a").nth(0), STATE);
        // b is come to by both ways of a, so by every truck.
        due("16 two ways to one", yardOf("bb;012").nth(999999), 2);
        due("16 held", yardOf("=bc;01;2").nth(1000000), 1);
    }

    private static void behind() {
        due("17 no yard", new PointsThrow().behind(1, 0), UNKNOWN);
        PointsThrow x = yardOf("bc;^12;=3b;a0");
        due("17 a behind 1", x.behind(1, 0), 1);
        due("17 a behind 2", x.behind(2, 0), 0);
        due("17 b behind 1", x.behind(1, 1), 1);
        due("17 b behind 4", x.behind(4, 1), 2);
        due("17 held c", x.behind(1000000, 2), 0);
        due("17 d is never come to", x.behind(1000000, 3), 0);
        // b is come to by every second truck.
        due("17 b behind a million", x.behind(1000000, 1), 0);
        due("17 b behind one less", x.behind(999999, 1), 0);
        due("17 b behind two less", x.behind(999998, 1), 3);
        due("17 n 0", x.behind(0, 0), OUTSIDE);
        due("17 n 1000001", x.behind(1000001, 0), OUTSIDE);
        due("17 point 4, of several the first", x.behind(0, 4), UNKNOWN);
        due("17 point -1", x.behind(1, -1), UNKNOWN);
        due("17 nothing moved", x.about(1, 2), 0);
        due("17 not straight", yardOf("0a").behind(1, 0), STATE);
        due("17 not straight, of several the first", yardOf("0a").behind(0, 0), STATE);
        due("17 not straight, no such switch", yardOf("0a").behind(0, 1), UNKNOWN);
    }

    private static void ago() {
        due("18 no yard", new PointsThrow().ago(0, 0), UNKNOWN);
        PointsThrow x = yardOf("bc;d12;=3d;^45");
        int[][] stood = new int[12][4];
        for (int n = 0; n < 12; n++) {
            for (int i = 0; i < 4; i++) {
                stood[n][i] = x.about(i, 2);
            }
            x.down();
        }
        for (int n = 1; n <= 12; n++) {
            for (int i = 0; i < 4; i++) {
                due("18 " + n + " ago " + i, x.ago(n, i), stood[12 - n][i]);
            }
        }
        due("18 0 ago", x.ago(0, 1), x.about(1, 2));
        PointsThrow y = yardOf("^123");
        due("18 ahead of all trucks", y.ago(1, 0), 5);
        due("18 a million ago", y.ago(1000000, 0), 2);
        y.lever(0, 1);
        due("18 a hand does not matter", y.ago(2, 0), 0);
        due("18 n -1", y.ago(-1, 0), OUTSIDE);
        due("18 n 1000001", y.ago(1000001, 0), OUTSIDE);
        due("18 point 1, of several the first", y.ago(-1, 1), UNKNOWN);
        due("18 held", yardOf("=12").ago(7, 0), 0);
        due("18 nothing moved", y.about(0, 2), 2);
        due("18 not straight", yardOf("0a").ago(0, 0), STATE);
        due("18 not straight, of several the first", yardOf("0a").ago(-1, 0), STATE);
        due("18 not straight, no such switch", yardOf("0a").ago(0, 1), UNKNOWN);
    }

    private static void want() {
        PointsThrow x = new PointsThrow();
        due("19 siding 10", x.want(10), UNKNOWN);
        due("19 siding -1", x.want(-1), UNKNOWN);
        for (int i = 1; i <= 8; i++) {
            due("19 the " + i, x.want(i), i);
        }
        due("19 the 9th", x.want(0), FULL);
        due("19 no siding, of several the first", x.want(10), UNKNOWN);
        due("19 eight", x.count(2), 8);
        PointsThrow y = wanting("12", 1, 2);
        due("19 one by one", y.which(), 1024);
        wantAll(y, 2, 1);
        due("19 in their order", y.which(), 0);
    }

    private static void clear() {
        PointsThrow x = new PointsThrow();
        due("20 none", x.clear(), 0);
        x.want(1);
        x.want(2);
        due("20 two", x.clear(), 2);
        due("20 none then", x.count(2), 0);
        due("20 anew", x.want(3), 1);
    }

    private static void begin() {
        PointsThrow x = wanting("bc;01;23", 3, 0);
        // a and c stand otherwise; then a points at b, and b at 0.
        due("21 two", x.begin(0), 2);
        due("21 a", x.begin(10), 1);
        due("21 b as now", x.begin(11), 0);
        due("21 c", x.begin(12), 1);
        due("21 there is no d", x.begin(13), NONE);
        due("21 nor f", x.begin(15), NONE);
        due("21 nothing moved", x.about(0, 2), 0);
        wantAll(x, 0, 2);
        due("21 as all stand", x.begin(0), 0);
        wantAll(x, 0, 1);
        due("21 by none", x.begin(0), NONE);
        due("21 by none, a", x.begin(10), NONE);
        due("21 by none, no such switch", x.begin(15), NONE);
        due("21 they count", x.count(5), 10);
        PointsThrow likes = wanting("^012", 1, 2);
        due("21 lazy, one", likes.begin(0), 1);
        due("21 lazy, the second stand", likes.begin(10), 3);
        PointsThrow first = wanting("bc;01;10", 1);
        // By b in 1, or by a in 1 (c points at 1): the first by a is a in 0.
        due("21 one of two", first.begin(0), 1);
        due("21 of like ones a first", first.begin(10), 0);
        due("21 then b", first.begin(11), 1);
        PointsThrow least = wanting("~121", 2);
        least.lever(0, 2);
        due("21 the least stand", least.begin(10), 1);
        PointsThrow away = wanting("0;12", 0);
        away.lever(1, 1);
        due("21 what no truck comes to stays", away.begin(11), 1);
        PointsThrow loop = wanting("=ab;0", 0, 0);
        due("21 not by one that goes round", loop.begin(0), 1);
        due("21 not straight", loop.begin(10), 1);
        due("21 six", wanting("b;c;d;e;f;01", 1).begin(15), 1);
        beginLikeOnes();
        beginLongWays();
    }

    private static void beginLikeOnes() {
        // By b in 1, or by c in 1, which a truck comes to first: b in 0 is the first of these.
        PointsThrow x = wanting("c;01;b1", 1);
        due("21 one of b and c", x.begin(0), 1);
        due("21 b as now", x.begin(11), 0);
        due("21 c", x.begin(12), 1);
        x.lever(1, 1);
        x.lever(2, 1);
        wantAll(x, 0);
        due("21 both", x.begin(0), 2);
        due("21 both, b", x.begin(11), 0);
        due("21 both, c", x.begin(12), 0);
    }

    /** Trucks of up to 500 moves each come true, others do not; the model tells which there are. */
    private static void beginLongWays() {
        due("21 500 moves as all stand", wanting("^ba;^caa;~dbb;eb;ddf;^ae0", 0).begin(0), 0);
        due("21 501 moves as all stand", wanting("ab;ca;^add;~eaa;fcc;^cd0", 0).begin(0), 1);
        for (String text : new String[] {"^baa;^caa;^daa;^eaa;^faa;^0aa", "^baa;^cab;^dac;^ead;^fae;^0af",
            "baa;caa;daa;eaa;faa;0aa", "~baa;^caa;daa;~eaa;^0aa"}) {
            for (int wanted = 1; wanted <= 8; wanted += 7) {
                PointsThrow x = yardOf(text);
                Model m = modelOf(text);
                for (int i = 0; i < wanted; i++) {
                    x.want(0);
                    m.want(0);
                }
                for (int what : new int[] {0, 10, 12, 14}) {
                    due("21 long ways of " + text + ", " + what, x.begin(what), m.begin(what));
                }
            }
        }
    }

    private static void beginRefused() {
        due("21 no yard", new PointsThrow().begin(0), STATE);
        due("21 no yard, of several the first", new PointsThrow().begin(1), STATE);
        PointsThrow x = yardOf("01");
        for (int what : new int[] {-1, 1, 9, 16, LEAST, MOST}) {
            due("21 what " + what, x.begin(what), OUTSIDE);
        }
        due("21 nothing wanted", x.begin(0), STATE);
        due("21 seven switches", wanting("0;0;0;0;0;0;0", 0).begin(0), STATE);
        due("21 seven switches, what", wanting("0;0;0;0;0;0;0", 0).begin(16), OUTSIDE);
        x.want(0);
        for (int i = 0; i < 20; i++) {
            due("21 done " + i, i % 2 == 0 ? x.begin(0) : x.hands(), 0);
        }
        due("21 twenty times", x.begin(0), STATE);
        due("21 hands, too", x.hands(), STATE);
        due("21 what is looked at first", x.begin(16), OUTSIDE);
        due("21 twenty", x.count(5), 20);
        write(x, "0");
        x.yard();
        due("21 for another yard, too", x.begin(0), STATE);
    }

    private static void hands() {
        due("22 none needed", wanting("012", 0, 1, 2).hands(), 0);
        due("22 each time", wanting("012", 2, 2, 2).hands(), 3);
        due("22 ahead of the first", wanting("012", 1, 2, 0).hands(), 1);
        due("22 between", wanting("012", 0, 2, 0).hands(), 1);
        due("22 cannot", wanting("012", 0, 3).hands(), NONE);
        due("22 held", wanting("=01", 1, 1, 1, 1).hands(), 1);
        due("22 held, to and fro", wanting("=01", 1, 0, 1, 0).hands(), 4);
        // A throw to the way that it points at already makes a lazy one go there twice again.
        PointsThrow lazy = wanting("^01", 0, 0, 1);
        lazy.lever(0, 0);
        lazy.down();
        due("22 points there already", lazy.hands(), 1);
        // From stand 3 of a swinging one 1 is next; thrown to the same way it is 3.
        PointsThrow swinging = wanting("~123", 2, 3);
        downs("22", swinging, 1, 2, 3);
        due("22 the other stand that points there", swinging.hands(), 1);
        due("22 two switches for one truck", wanting("bc;01;23", 3).hands(), 2);
        due("22 a throw that lasts", wanting("b0;12", 2, 0, 1, 0, 2).hands(), 1);
        due("22 by two ways", wanting("bc;0d;d1;23", 3, 3).hands(), 3);
        due("22 by one of one way", wanting("b;01", 1).hands(), 1);
        due("22 eight", wanting("=01", 1, 0, 1, 0, 1, 0, 1, 0).hands(), 8);
        PointsThrow x = wanting("01", 1);
        due("22 one", x.hands(), 1);
        due("22 nothing thrown", x.about(0, 2), 0);
        due("22 counted", x.count(5), 1);
        due("22 six lazy ones", wanting("^bcd;^cde;^def;^ef0;^f01;^012", 0, 1, 0, 1).hands(), 2);
        due("22 six, eight wanted", wanting("^bcd;^cde;^def;^ef0;^f01;^012", 2, 1, 0, 2, 1, 0, 2, 1).hands(), 7);
    }

    private static void handsRefused() {
        due("22 no yard", new PointsThrow().hands(), STATE);
        due("22 not straight", wanting("0a", 0).hands(), STATE);
        due("22 nothing wanted", yardOf("01").hands(), STATE);
        due("22 seven switches", wanting("0;0;0;0;0;0;0", 0).hands(), STATE);
        PointsThrow x = wanting("0a", 0);
        x.hands();
        due("22 a refused one is not done", x.count(5), 0);
    }

    private static void empty() {
        due("23 no yard", new PointsThrow().empty(0), STATE);
        due("23 no yard, of several the first", new PointsThrow().empty(10), UNKNOWN);
        PointsThrow x = yardOf("bc;d12;=3d;^45");
        int[] ahead = {NONE, 2, 4, 1, 0, 12, NONE, NONE, NONE, NONE};
        for (int s = 0; s < 10; s++) {
            due("23 siding " + s, x.empty(s), ahead[s]);
        }
        due("23 nothing moved", x.about(0, 2), 0);
        due("23 siding 10", x.empty(10), UNKNOWN);
        due("23 siding -1", x.empty(-1), UNKNOWN);
        PointsThrow round = yardOf("0b1;b");
        due("23 ahead of one that goes round", round.empty(0), 0);
        due("23 behind one that goes round", round.empty(1), NONE);
        // b is come to by the trucks 1, 4, 7 .., c by every third of these from the second on, d by those again.
        PointsThrow far = yardOf("00b;00c;00d;0e;0f;01");
        far.lever(0, 2);
        far.lever(1, 1);
        far.lever(2, 1);
        due("23 201 is too far", far.empty(1), NONE);
        due("23 one down", far.down(), 0);
        due("23 exactly 200", far.empty(1), 200);
        due("23 one down", far.down(), 0);
        due("23 199", far.empty(1), 199);
        PointsThrow full = yardOf("01");
        for (int i = 0; i < 60; i++) {
            full.down();
        }
        due("23 with sixty trucks", full.empty(1), 1);
    }

    private static void which() {
        due("24 no yard", new PointsThrow().which(), STATE);
        due("24 nothing wanted", yardOf("01").which(), STATE);
        PointsThrow x = wanting("bc;01;23", 0, 2, 1, 3);
        due("24 none stuck", x.which(), 1024);
        wantAll(x, 0, 1, 0, 1);
        due("24 a", x.which(), 1);
        wantAll(x, 0, 2, 0, 3);
        due("24 b", x.which(), 2);
        wantAll(x, 0, 2, 1, 2);
        due("24 c", x.which(), 4);
        wantAll(x, 0, 2);
        due("24 b, c or none", x.which(), 1024 + 6);
        wantAll(x, 0);
        due("24 any or none", x.which(), 1024 + 7);
        wantAll(x, 9);
        due("24 nothing explains", x.which(), 0);
        PointsThrow held = wanting("=0;1;2", 0, 0);
        due("24 held ones and those that none comes to", held.which(), 1024 + 7);
        PointsThrow now = wanting("012", 1, 1);
        now.lever(0, 1);
        due("24 stuck as it stands now", now.which(), 1);
        PointsThrow loop = wanting("a0", 0);
        due("24 stuck it goes round", loop.which(), 1024);
        due("24 nothing moved", loop.about(0, 2), 0);
        PointsThrow ten = wanting("b;c;d;e;f;g;h;i;j;01", 0, 0);
        due("24 the tenth", ten.which(), 512);
    }

    private static void noticed() {
        due("25 no yard", new PointsThrow().noticed(), STATE);
        due("25 no such switch", yardOf("0").noticed(), 1);
        due("25 held", yardOf("=01").noticed(), 1);
        due("25 swinging by one", yardOf("~0").noticed(), 1);
        due("25 lazy by one turns, unseen", yardOf("^0").noticed(), NONE);
        due("25 two", yardOf("01").noticed(), 2);
        due("25 lazy", yardOf("^01").noticed(), 3);
        due("25 not by ways to the same", yardOf("001").noticed(), 3);
        due("25 never", yardOf("00").noticed(), NONE);
        due("25 one that none can come to", yardOf("01;23").noticed(), 2);
        due("25 one behind a held that points elsewhere", yardOf("=0b;12").noticed(), NONE);
        due("25 the last of a tree", yardOf("bc;01;23").noticed(), 4);
        PointsThrow x = yardOf("bc;d12;=3d;^45");
        due("25 the document's first yard", x.noticed(), 13);
        due("25 nothing moved", x.about(0, 2), 0);
        // Stuck, a goes round by itself, and that is elsewhere than 0.
        due("25 goes round", yardOf("a0").noticed(), 1);
        // Truck 1 stops in 0, all later ones go round; a stuck lets all stop in 0.
        due("25 one that goes round is taken away", yardOf("0b;=b").noticed(), 2);
        // All go round, stuck or not, in a yard behind another one that was watched.
        PointsThrow again = yardOf("01;2;3");
        due("25 of the first yard", again.noticed(), 2);
        write(again, "bc;b;c");
        again.yard();
        due("25 all go round", again.noticed(), NONE);
        // d is come to for the second time, and only then shows, by the 41st truck.
        PointsThrow late = yardOf("0b;00c;~d00;12");
        late.lever(0, 1);
        late.lever(2, 2);
        due("25 41 is too late", late.noticed(), NONE);
        due("25 one down", late.down(), 0);
        due("25 exactly 40", late.noticed(), 40);
    }

    private static void apart() {
        due("26 no yard", new PointsThrow().apart(), STATE);
        due("26 no such switch", yardOf("=01").apart(), 1);
        due("26 one", yardOf("01").apart(), 2);
        due("26 unseen", yardOf("00").apart(), NONE);
        due("26 a tree", yardOf("bc;01;23").apart(), 4);
        // Stuck, a and b both send all trucks to 0.
        due("26 noticed", yardOf("0b;01").noticed(), 4);
        due("26 never told apart", yardOf("0b;01").apart(), NONE);
        // None stuck 0 0 0 1 2 2, a stuck 0 0 0 0 0 0, b stuck 0 0 0 0 2 2.
        PointsThrow x = yardOf("^0b2;01");
        due("26 seen", x.noticed(), 4);
        due("26 told apart later", x.apart(), 5);
        due("26 nothing moved", x.about(0, 2), 0);
        due("26 one that is never come to", yardOf("=0b;01").apart(), NONE);
    }

    private static void image() {
        due("27 no yard", new PointsThrow().image(), STATE);
        PointsThrow x = yardOf("012");
        due("27 none", x.image(), 0);
        downs("27", x, 0, 1);
        due("27 two, the latest", x.image(), 2);
        downs("27", x, 2, 0);
        due("27 goes on", x.restore(), 2);
        due("27 siding 2", x.many(2), 0);
        due("27 siding 1", x.truck(1, 0), 1);
        due("27 stand", x.about(0, 2), 2);
        downs("27 and on", x, 2);
        due("27 numbered on", x.truck(2, 0), 2);
        x.anew();
        x.lever(0, 2);
        downs("27 others", x, 2, 0);
        due("27 goes on again", x.restore(), 2);
        due("27 truck 0", x.truck(0, 0), 0);
        due("27 truck 1", x.truck(1, 0), 1);
        due("27 none in 2", x.many(2), 0);
    }

    private static void restore() {
        due("28 no yard", new PointsThrow().restore(), STATE);
        PointsThrow x = yardOf("=012;12");
        due("28 none was kept", x.restore(), STATE);
        x.lever(0, 1);
        downs("28", x, 1);
        x.image();
        x.lever(0, 2);
        x.want(5);
        x.letters(pack("0"));
        x.anew();
        due("28 one", x.restore(), 1);
        due("28 stand", x.about(0, 2), 1);
        due("28 siding", x.many(1), 1);
        due("28 wanted are as they are", x.count(2), 1);
        due("28 the page, too", x.count(3), 1);
        due("28 again", x.restore(), 1);
        due("28 another yard", x.yard(), 1);
        due("28 of another yard", x.restore(), STATE);
        due("28 an image of this one", x.image(), 0);
        due("28 it goes on", x.restore(), 0);
        write(x, "0");
        x.yard();
        due("28 the same text is another yard", x.restore(), STATE);
    }

    private static void count() {
        PointsThrow x = wanting("01;2;3", 4, 5);
        downs("29", x, 0, 1, 0);
        x.letters(pack("abcd"));
        x.begin(0);
        x.hands();
        x.begin(11);
        int[] counts = {3, 3, 2, 4, 1, 3};
        for (int what = 0; what <= 5; what++) {
            due("29 what " + what, x.count(what), counts[what]);
        }
        due("29 what 6", x.count(6), OUTSIDE);
        due("29 what -1", x.count(-1), OUTSIDE);
        due("29 what least", x.count(LEAST), OUTSIDE);
    }

    private static long hash(long... told) {
        long h = 521;
        for (long one : told) {
            h = 31 * h + one;
        }
        return h;
    }

    private static void digest() {
        PointsThrow x = new PointsThrow();
        due("30 new", x.digest(), hash(0, 0, 0, 0, 0, 0, 0, 0, 0, 0, 0, 0, 0, 0, 0, 0));
        x.want(7);
        x.letters(pack("^13"));
        due("30 no yard", x.digest(), hash(0, 0, 0, 0, 0, 0, 0, 0, 0, 0, 7, '^', '1', '3', 0, 0, 1, 3, 0, 0));
        x.yard();
        downs("30", x, 1, 1, 3);
        x.letters(pack("a;"));
        x.hands();
        due("30 with a yard", x.digest(), hash(
            3, 2, 3, 4, 1, 1, 3, NONE,
            0, 2, 0, 1, 0, 1, 2, 0, 0, 0, 0, 0, 0,
            1, 1, NONE, 1, NONE, 0, NONE, NONE, NONE, NONE, NONE, NONE, 2,
            7, 'a', ';', 1, 3, 1, 2, 1, 1));
        due("30 asked again", x.digest(), x.digest());
    }

    private static void refusalsChangeNothing() {
        PointsThrow x = wanting("0a;12", 1, 2, 3, 4, 5, 6, 7, 8);
        downs("all", x, 0, 0);
        x.letters(pack("bc"));
        long before = x.digest();
        x.letters(-1L);
        x.yard();
        x.about(9, 0);
        x.as(0, 9);
        x.lever(0, 2);
        x.lever(2, 0);
        x.many(10);
        x.truck(0, 60);
        x.nth(1);
        x.behind(1, 0);
        x.ago(1, 0);
        x.want(1);
        x.want(10);
        x.begin(1);
        x.hands();
        x.empty(10);
        x.restore();
        x.count(6);
        due("all refused calls change nothing", x.digest(), before);
        x.moves();
        x.round();
        x.straight();
        x.empty(1);
        x.which();
        x.noticed();
        x.apart();
        x.image();
        due("all that only tell change nothing", x.digest(), before);
    }
}
