import java.util.function.Supplier;

/** The edges of what is wanted and planned: section 3 and promises 19 to 26, each under the document's own words. */
public final class PlanEdgeTest extends Due {
    private static final int[] NO_SIDINGS = {LEAST, -1, 10, 11, MOST};
    private static final int[] NO_BEGINNINGS = {LEAST, -10, -1, 1, 2, 9, 16, 17, MOST};
    private static final String SIX = "0b;0c;0d;0e;0f;01";
    private static final String SEVEN = "0b;0c;0d;0e;0f;0g;01";

    public static void main(String[] args) {
        wanted();
        wantEdges();
        clearEdges();
        beginAllStands();
        beginOfLongWays();
        beginFewest();
        beginLikeOnes();
        beginWhat();
        beginNoYard();
        beginOutside();
        beginState();
        plansTogether();
        handsFewest();
        handsPointsThereAlready();
        handsInAStraightYard();
        handsEdges();
        handsRefused();
        emptyEdges();
        emptyRefused();
        stuck();
        whichEdges();
        whichRefused();
        noticedSuspects();
        noticedLeast();
        noticedEdges();
        apartEdges();
        goesRoundIsTakenAway();
        end("PlanEdgeTest");
    }

    private static PointsThrow planner() {
        PointsThrow x = sent(wanting("bc;01;^23", 1, 2), 2);
        x.image();
        return sent(x, 3);
    }

    private static PointsThrow planned(int plans) {
        PointsThrow x = planner();
        for (int i = 0; i < plans; i++) {
            due("plan " + i + " is done", x.begin(0) == STATE ? 0 : 1, 1);
        }
        return x;
    }

    private static void wanted() {
        sentence("WANTED: a row of SIDINGS (8 at most), for the next TRUCKS, one by one.");
        PointsThrow x = wanting("012", 0, 1, 2, 0, 1, 2, 0, 1);
        due("eight", x.count(2), 8);
        due("a ninth", x.want(2), FULL);
        due("eight come true as all stands", x.begin(0), 0);
        wantAll(x, 0, 1, 2, 0, 1, 2, 0, 2);
        due("the eighth counts", x.begin(0), NONE);
        wantAll(x, 1, 1, 2, 0, 1, 2, 0, 1);
        due("the first counts", x.begin(0), NONE);
        wantAll(x, 1, 2, 0);
        sent(x, 1);
        due("the next from now on", x.which() >> 10, 1);
    }

    private static PointsThrow wantingSome(int some) {
        PointsThrow x = new PointsThrow();
        for (int i = 0; i < some; i++) {
            due("wanted " + i, x.want(i), i + 1);
        }
        return x;
    }

    private static void wantEdges() {
        sentence("`int want(int siding)`: One more is WANTED: how many. UNKNOWN: siding; FULL.");
        due("siding 0, the first", new PointsThrow().want(0), 1);
        due("siding 9, the first", new PointsThrow().want(9), 1);
        due("the eighth", wantingSome(7).want(9), 8);
        quiet("the ninth", FULL, () -> wantingSome(8), x -> x.want(9));
        for (int siding : NO_SIDINGS) {
            quiet("siding " + siding, UNKNOWN, () -> wantingSome(3), x -> x.want(siding));
            quiet("of several the first, siding " + siding, UNKNOWN, () -> wantingSome(8), x -> x.want(siding));
        }
        due("with a yard, one that no way leads to", yardOf("0").want(9), 1);
    }

    private static void clearEdges() {
        sentence("`int clear()`: Nothing is WANTED: how many there were.");
        due("none", new PointsThrow().clear(), 0);
        due("one", wantingSome(1).clear(), 1);
        PointsThrow x = wantingSome(8);
        due("eight", x.clear(), 8);
        due("none then", x.clear(), 0);
        due("none is told", x.digest(), new PointsThrow().digest());
        due("not full", x.want(5), 1);
        PointsThrow y = planner();
        due("two", y.clear(), 2);
        due("nothing to plan", y.begin(0), STATE);
    }

    private static void beginAllStands() {
        sentence("BEGIN: of all STANDS of all SWITCHES (6 at most) those by which the WANTED ones come true "
            + "without any hand");
        // Only the second stand of a lazy one goes there once, only the fourth of a swinging one goes down.
        due("lazy, stand 1", wanting("^012", 0, 1).begin(10), 1);
        due("lazy, stand 3", wanting("^012", 1, 2).begin(10), 3);
        due("lazy, stand 5", wanting("^012", 2, 0).begin(10), 5);
        due("swinging, stand 3", wanting("~012", 1, 0).begin(10), 3);
        due("swinging, stand 2", wanting("~012", 2, 1, 0).begin(10), 2);
        due("held, stand 2", wanting("=012", 2, 2, 2).begin(10), 2);
        due("a switch, stand 2", wanting("012", 2, 0).begin(10), 2);
        due("by none of a held one", wanting("=012", 2, 0).begin(0), NONE);
        due("six", wanting(SIX, 1).begin(15), 1);
        due("seven", wanting(SEVEN, 1).begin(0), STATE);
        due("not by one that goes round", wanting("=ab;0", 0).begin(10), 1);
        due("not straight", wanting("a0", 0, 0, 0).begin(0), 0);
    }

    /** Found by trying: the second truck, behind one of some 300 moves, stops behind 500 and behind 501. */
    private static void beginOfLongWays() {
        sentence("those by which the WANTED ones come true without any hand");
        due("one of 500 moves", wanting("^ba;^caa;~dbb;eb;ddf;^ae0", 0).begin(0), 0);
        due("one of 501 goes round", wanting("ab;ca;^add;~eaa;fcc;^cd0", 0).begin(0), 1);
        due("a second one of 500 moves", wanting("ebc;c;bbd;^adc;bdf;~cd0", 0, 0).begin(0), 0);
        String late = "~dbb;^ac;~bcb;ace;fc;~ca0";
        Model m = modelOf(late);
        m.want(0);
        m.want(0);
        PointsThrow x = wanting(late, 0, 0);
        due("a second one of 501 goes round", x.begin(0) == 0 ? 0 : 1, 1);
        for (int what : new int[] {0, 10, 11, 12, 13, 14, 15}) {
            due("so others are told, " + what, x.begin(what), m.begin(what));
        }
    }

    private static void beginFewest() {
        sentence("by fewest SWITCHES that are not in that STAND now");
        due("none", wanting(SIX, 0).begin(0), 0);
        due("all six", wanting(SIX, 1).begin(0), 6);
        for (int i = 0; i < 6; i++) {
            PointsThrow x = wanting(SIX, 1);
            for (int k = 0; k < i; k++) {
                x.lever(k, 1);
            }
            due("but " + i, x.begin(0), 6 - i);
        }
        // By a in 0 and b, c in 1, or by a in 1 alone: the fewest, not the first.
        PointsThrow fewer = wanting("b1;0c;01", 1);
        due("one, not two", fewer.begin(0), 1);
        due("a", fewer.begin(10), 1);
        due("b", fewer.begin(11), 0);
        // Now in stand 3, which points there as well as stand 1.
        PointsThrow now = sent(wanting("~012", 1), 3);
        due("as it is", now.begin(0), 0);
        due("not the least", now.begin(10), 3);
        PointsThrow away = wanting("0;12", 0);
        away.lever(1, 1);
        due("one that none comes to", away.begin(0), 0);
        due("stays as it is", away.begin(11), 1);
    }

    private static void beginLikeOnes() {
        sentence("of like ones the first (by a, then b and so on, the least STAND).");
        PointsThrow stand = sent(wanting("~012", 1), 2);
        due("the least stand of two", stand.begin(10), 1);
        PointsThrow lazy = wanting("^012", 1);
        due("the least of a lazy one", lazy.begin(10), 2);
        PointsThrow a = wanting("bc;01;10", 1);
        due("by a first", a.begin(10), 0);
        due("then by b", a.begin(11), 1);
        due("then by c", a.begin(12), 0);
        // c is come to ahead of b: by b in 1, or by c in 1.
        PointsThrow order = wanting("c;01;b1", 1);
        due("by the letters, not as they are come to: b", order.begin(11), 0);
        due("by the letters: c", order.begin(12), 1);
        // By f in 1, or by e in 1: e in 0 is first.
        PointsThrow last = wanting("b;c;d;e;f2;12", 2);
        due("one of the last two", last.begin(0), 1);
        due("e as it is", last.begin(14), 0);
        due("f", last.begin(15), 1);
    }

    private static void beginWhat() {
        sentence("BEGIN: what = 0 how many SWITCHES are not in that STAND now, 10 and i the STAND of the i-th SWITCH "
            + "(NONE: there is none); NONE: by none.");
        for (int i = 0; i < 6; i++) {
            due("of six " + i, wanting(SIX, 1).begin(10 + i), 1);
            due("of one " + i, wanting("01", 1).begin(10 + i), i == 0 ? 1 : NONE);
            due("of five " + i, wanting("0b;0c;0d;0e;01", 1).begin(10 + i), i < 5 ? 1 : NONE);
            due("by none " + i, wanting("01", 1, 1).begin(10 + i), NONE);
        }
        due("by none", wanting("01", 1, 1).begin(0), NONE);
        due("by none, a siding that no way leads to", wanting("01", 2).begin(0), NONE);
        due("by none, all go round", wanting("a", 0).begin(0), NONE);
        PointsThrow x = planner();
        long before = x.digest();
        x.begin(10);
        // Only the last number of a digest counts plans.
        due("it plans, and changes nothing else", x.digest(), before + 1);
        x.begin(15);
        due("nor if there is none", x.digest(), before + 2);
    }

    private static void beginNoYard() {
        sentence("STATE: no YARD; OUTSIDE: what (10 to 15 else)");
        quiet("no yard", STATE, () -> wantingSome(1), x -> x.begin(0));
        for (int what : NO_BEGINNINGS) {
            quiet("no yard, of several the first, " + what, STATE, () -> wantingSome(1), x -> x.begin(what));
        }
    }

    private static void outsideOf(String why, Supplier<PointsThrow> made) {
        for (int what : NO_BEGINNINGS) {
            quiet(why + ", what " + what, OUTSIDE, made, x -> x.begin(what));
        }
    }

    private static void beginOutside() {
        sentence("OUTSIDE: what (10 to 15 else); STATE: more than 6 SWITCHES, nothing WANTED, "
            + "or begin(), hands() were done 20 times together.");
        outsideOf("a yard", PlanEdgeTest::planner);
        outsideOf("more than 6", () -> wanting(SEVEN, 1));
        outsideOf("nothing wanted", () -> yardOf("01"));
        outsideOf("20 times", () -> planned(20));
        due("10", planner().begin(10) >= 0 ? 1 : 0, 1);
        due("15", planner().begin(15), NONE);
    }

    private static void beginState() {
        sentence("STATE: more than 6 SWITCHES, nothing WANTED, or begin(), hands() were done 20 times together.");
        due("6", wanting(SIX, 0).begin(0), 0);
        quiet("7", STATE, () -> wanting(SEVEN, 0), x -> x.begin(0));
        quiet("7, a switch", STATE, () -> wanting(SEVEN, 0), x -> x.begin(10));
        quiet("10", STATE, () -> wanting("0;0;0;0;0;0;0;0;0;0", 0), x -> x.begin(15));
        due("one is wanted", wanting("0", 0).begin(0), 0);
        quiet("nothing is wanted", STATE, () -> yardOf("0"), x -> x.begin(0));
        quiet("nothing is wanted any more", STATE, () -> wanting("0"), x -> x.begin(10));
        due("done 19 times", planned(19).begin(0) == STATE ? 0 : 1, 1);
        quiet("done 20 times", STATE, () -> planned(20), x -> x.begin(0));
        quiet("done 20 times, a switch", STATE, () -> planned(20), x -> x.begin(10));
        quiet("done 20 times, none such", STATE, () -> planned(20), x -> x.begin(15));
    }

    private static void plansTogether() {
        sentence("or begin(), hands() were done 20 times together.");
        for (int begins = 0; begins <= 20; begins++) {
            PointsThrow x = wanting("01", 1);
            for (int i = 0; i < 20; i++) {
                due(begins + " begin(), " + i, i < begins ? x.begin(0) : x.hands(), 1);
                due(begins + " begin(), count " + i, x.count(5), i + 1);
            }
            due(begins + " begin(), then begin()", x.begin(0), STATE);
            due(begins + " begin(), then hands()", x.hands(), STATE);
            due(begins + " begin(), twenty", x.count(5), 20);
        }
        PointsThrow refused = yardOf("01");
        for (int i = 0; i < 30; i++) {
            due("refused, nothing wanted", refused.begin(0), STATE);
            due("refused hands, nothing wanted", refused.hands(), STATE);
            due("refused, no what", refused.begin(1), OUTSIDE);
        }
        refused.want(1);
        due("refused ones are not done", refused.begin(0), 1);
        PointsThrow none = wanting("01", 2);
        for (int i = 0; i < 20; i++) {
            due("by none", i % 2 == 0 ? none.begin(0) : none.hands(), NONE);
        }
        due("by none is done, too", none.begin(0), STATE);
        none.anew();
        due("anew it is not forgotten", none.begin(0), STATE);
        readNext(none, "01");
        due("nor by another yard", none.hands(), STATE);
        due("still twenty", none.count(5), 20);
    }

    private static void handsFewest() {
        sentence("HANDS: the fewest throws by hand (one SWITCH THROWN to one WAY, between TRUCKS) "
            + "by which the WANTED ones come true");
        due("none", wanting("012", 0, 1, 2, 0).hands(), 0);
        due("ahead of the first", wanting("012", 1, 2, 0).hands(), 1);
        due("ahead of the last", wanting("012", 0, 1, 2, 0, 1, 2, 0, 0).hands(), 1);
        due("each time", wanting("012", 0, 0, 0).hands(), 2);
        due("each of eight", wanting("012", 2, 2, 2, 2, 2, 2, 2, 2).hands(), 8);
        due("six for one", wanting(SIX, 1).hands(), 6);
        due("six for each of eight", wanting(SIX, 1, 1, 1, 1, 1, 1, 1, 1).hands(), 48);
        // Thrown to its first way a lazy one goes there twice: the second stand is not to be had by hand.
        due("a lazy one only to the first stand", wanting("^012", 1, 2).hands(), 2);
        due("by begin() it would be one", wanting("^012", 1, 2).begin(0), 1);
        due("a swinging one only to the least", wanting("~012", 1, 0).hands(), 2);
        due("a later switch as it stands", wanting("bb;012;33", 0, 1, 2, 0).hands(), 0);
        due("a later switch thrown once", wanting("bb;012;33", 1, 2, 0, 1).hands(), 1);
        due("against the letters", wanting("e0;12;^b3;c45;d6", 1, 0, 4, 0, 2).hands(), 3);
        due("one way of two costs less", wanting("bc;0d;1;01", 1).hands(), 1);
    }

    private static void handsPointsThereAlready() {
        sentence("(one that points there already may be THROWN, too)");
        // In its second stand a lazy one goes on behind one truck; thrown again it does behind two.
        PointsThrow lazy = sent(wanting("^01", 0, 0, 1), 1);
        due("a lazy one", lazy.hands(), 1);
        PointsThrow swinging = sent(wanting("~012", 1, 2), 3);
        due("a swinging one", swinging.hands(), 1);
        PointsThrow first = wanting("^01", 0, 0, 1, 1, 0);
        due("none is needed in the first stand", first.hands(), 0);
    }

    private static void handsInAStraightYard() {
        sentence("in a STRAIGHT YARD of 6 SWITCHES at most");
        due("one switch", wanting("01", 1).hands(), 1);
        due("five", wanting("0b;0c;0d;0e;01", 1).hands(), 5);
        due("six", wanting(SIX, 1).hands(), 6);
        due("seven", wanting(SEVEN, 1).hands(), STATE);
        due("seven, though trucks come to one", wanting("01;2;2;2;2;2;2", 1).hands(), STATE);
        due("the last leads back to itself", wanting("0b;0c;0d;0e;0f;0f1", 1).hands(), STATE);
        due("one that no truck can come to does", wanting("0b;0c;0d;0e;01;f", 1).hands(), 5);
    }

    private static void handsEdges() {
        sentence("`int hands()`: HANDS; NONE: they cannot come true.");
        due("no way leads there", wanting("01", 2).hands(), NONE);
        due("only the last cannot", wanting("01", 0, 1, 0, 1, 0, 1, 0, 2).hands(), NONE);
        due("a switch that no truck comes to leads there", wanting("01;2", 2).hands(), NONE);
        due("one switch of one way", wanting("0", 0, 0, 0, 0, 0, 0, 0, 0).hands(), 0);
        due("six lazy ones of three ways", wanting("^0b0;^0c0;^0d0;^0e0;^0f0;^010", 1).hands(), 6);
        PointsThrow x = planner();
        long before = x.digest();
        x.hands();
        due("it plans, and changes nothing else", x.digest(), before + 1);
    }

    private static void handsRefused() {
        sentence("STATE: no YARD, not STRAIGHT, as begin().");
        quiet("no yard", STATE, () -> wantingSome(1), PointsThrow::hands);
        quiet("not straight", STATE, () -> wanting("0a", 0), PointsThrow::hands);
        quiet("not straight by a held one", STATE, () -> wanting("=0a", 0), PointsThrow::hands);
        due("straight where trucks can come to", wanting("0;b", 0).hands(), 0);
        due("6 switches", wanting(SIX, 0).hands(), 0);
        quiet("7 switches", STATE, () -> wanting(SEVEN, 0), PointsThrow::hands);
        quiet("nothing wanted", STATE, () -> yardOf("0"), PointsThrow::hands);
        due("done 19 times", planned(19).hands() == STATE ? 0 : 1, 1);
        quiet("done 20 times", STATE, () -> planned(20), PointsThrow::hands);
    }

    /** Siding 1 is come to by the truck 202 at first, with all that is thrown here. */
    private static PointsThrow far() {
        PointsThrow x = yardOf("00b;00c;00d;0e;0f;01");
        x.lever(0, 2);
        x.lever(1, 1);
        x.lever(2, 1);
        return x;
    }

    private static void emptyEdges() {
        sentence("EMPTY: how many TRUCKS at least (0 to 200) would have to be let down ahead (and taken away) "
            + "so that the next one stops in a SIDING.");
        due("0", yardOf("01").empty(0), 0);
        due("1", yardOf("01").empty(1), 1);
        due("the first of many", yardOf("101").empty(0), 1);
        due("201 is none", far().empty(1), NONE);
        due("200", sent(far(), 1).empty(1), 200);
        due("199", sent(far(), 2).empty(1), 199);
        due("truck 202 stops there", far().nth(202), 1);
        for (int n = 1; n <= 201; n++) {
            due("none ahead of it does", far().nth(n), 0);
        }
        due("with sixty trucks there", sent(yardOf("01"), 60).empty(1), 1);
        due("ahead of one that goes round", yardOf("01b;b").empty(1), 1);
        due("behind one that goes round", yardOf("0b1;b").empty(1), NONE);
        quiet("none is let down", 1, () -> sent(yardOf("012"), 1), x -> x.empty(2));
    }

    private static void emptyRefused() {
        sentence("`int empty(int siding)`: EMPTY; NONE: by none of 0 to 200. UNKNOWN: siding; STATE.");
        quiet("siding 0", NONE, () -> yardOf("1"), x -> x.empty(0));
        quiet("siding 9", 0, () -> yardOf("9"), x -> x.empty(9));
        quiet("all go round", NONE, () -> yardOf("a"), x -> x.empty(0));
        for (int siding : NO_SIDINGS) {
            quiet("siding " + siding, UNKNOWN, PlanEdgeTest::planner, x -> x.empty(siding));
            quiet("ahead of no yard, siding " + siding, UNKNOWN, PointsThrow::new, x -> x.empty(siding));
        }
        quiet("no yard", STATE, PointsThrow::new, x -> x.empty(0));
        quiet("no yard, the last siding", STATE, PointsThrow::new, x -> x.empty(9));
    }

    private static void stuck() {
        sentence("STUCK: a SWITCH that never TURNS.");
        due("not behind a truck that comes twice", wanting("a0", 0).which(), 1024);
        due("a lazy one", wanting("^01", 0, 0, 0).which(), 1);
        due("a swinging one", wanting("~01", 0, 0).which(), 1);
        due("a switch", wanting("01", 0, 0, 0, 0, 0, 0, 0, 0).which(), 1);
        due("a held one never does", wanting("=01", 0, 0).which(), 1025);
    }

    private static void whichEdges() {
        sentence("WHICH: SWITCHES of which each alone, if it was STUCK as it stands now, would explain a row of SIDINGS "
            + "(WANTED) that the next TRUCKS stop in; whether none is STUCK would, too.");
        due("all ten and none", wanting("b;c;d;e;f;g;h;i;j;01", 0).which(), 2047);
        due("the tenth alone", wanting("b;c;d;e;f;g;h;i;j;01", 0, 0).which(), 512);
        due("the first nine and none", wanting("b;c;d;e;f;g;h;i;j;01", 0, 1).which(), 2047 - 512);
        due("nothing explains", wanting("01", 5).which(), 0);
        due("the first alone", wanting("01;2;3", 0, 0).which(), 1);
        due("one that none comes to explains as none does", wanting("01;2;3", 0, 1).which(), 1024 + 6);
        PointsThrow now = wanting("012", 1, 1, 1);
        now.lever(0, 1);
        due("as it stands now", now.which(), 1);
        PointsThrow second = sent(wanting("~012", 1, 1), 3);
        due("as it stands now, in stand 3", second.which(), 1);
        // Both stuck would explain it, none alone does.
        due("each alone", wanting("0b;12", 0, 0, 1, 1).which(), 0);
        due("eight, by none stuck", wanting("012", 0, 1, 2, 0, 1, 2, 0, 1).which(), 1024);
        due("eight, not the last", wanting("012", 0, 1, 2, 0, 1, 2, 0, 2).which(), 0);
    }

    private static void whichRefused() {
        sentence("`int which()`: WHICH: bits of SWITCHES, bit 10: none is STUCK. STATE: no YARD, nothing WANTED.");
        quiet("no yard", STATE, () -> wantingSome(1), PointsThrow::which);
        quiet("no yard, nothing wanted", STATE, PointsThrow::new, PointsThrow::which);
        quiet("nothing wanted", STATE, () -> yardOf("01"), PointsThrow::which);
        quiet("one wanted", 1025, () -> wanting("01", 0), PointsThrow::which);
        quiet("nothing turns", 0, PlanEdgeTest::planner, PointsThrow::which);
        quiet("with more than 6 switches", 1024 + 127, () -> wanting(SEVEN, 0, 0), PointsThrow::which);
        due("as often as one likes", planned(20).which(), 0);
    }

    private static void noticedSuspects() {
        sentence("each SWITCH that a TRUCK can come to, and that does TURN (its KIND is not HELD, "
            + "it has more than one STAND)");
        due("a held one is none", yardOf("=00").noticed(), 1);
        due("a switch of one way is none", yardOf("0").noticed(), 1);
        due("a swinging one of one way is none", yardOf("~0").noticed(), 1);
        due("a lazy one of one way has two stands", yardOf("^0").noticed(), NONE);
        due("a switch of two", yardOf("00").noticed(), NONE);
        due("a swinging one of two", yardOf("~00").noticed(), NONE);
        due("one that none can come to", yardOf("0;11").noticed(), 1);
        due("one that can be come to by a throw", yardOf("=0b;11").noticed(), NONE);
        due("one behind ten", yardOf("b;c;d;e;f;g;h;i;j;00").noticed(), NONE);
        due("a is one", yardOf("01").noticed(), 2);
    }

    private static void noticedLeast() {
        sentence("NOTICED: the least n (1 to 40) so that each SWITCH");
        due("the latest of them", yardOf("bc;01;23").noticed(), 4);
        due("a alone would be two", yardOf("bc;00;22").noticed(), NONE);
        due("as all stands now", sent(yardOf("001"), 1).noticed(), 2);
        due("as it stood at first", yardOf("001").noticed(), 3);
        sentence("would, STUCK alone, put some of the next n TRUCKS elsewhere than none STUCK.");
        // None stuck 0 1 0 2, a stuck 0 0, b stuck 0 1 0 1; both together 0 0.
        due("each alone", yardOf("0b;12").noticed(), 4);
        // None stuck 0 1 1 0, stuck 0 0: the third is elsewhere again, but the second is the first.
        due("the first that is elsewhere", yardOf("011").noticed(), 2);
        due("lazy", yardOf("^01").noticed(), 3);
    }

    private static PointsThrow late() {
        PointsThrow x = yardOf("0b;00c;~d00;12");
        x.lever(0, 1);
        x.lever(2, 2);
        return x;
    }

    private static void noticedEdges() {
        sentence("`int noticed()`: NOTICED; NONE: by none of 1 to 40 (1, if there is no such SWITCH). STATE.");
        quiet("no yard", STATE, PointsThrow::new, PointsThrow::noticed);
        quiet("no such switch", 1, () -> yardOf("=01"), PointsThrow::noticed);
        due("1", yardOf("a0").noticed(), 1);
        due("2", yardOf("01").noticed(), 2);
        due("41 is none", late().noticed(), NONE);
        due("40", sent(late(), 1).noticed(), 40);
        due("39", sent(late(), 2).noticed(), 39);
        due("all of them, not one", yardOf("01;22").noticed(), 2);
        due("all that can be come to", yardOf("0b;22").noticed(), NONE);
        due("with sixty trucks", sent(yardOf("01"), 60).noticed(), 2);
        quiet("none is let down", 2, () -> sent(yardOf("01"), 3), PointsThrow::noticed);
    }

    /** Found by trying: all are noticed by the 25th truck, two of them told apart by the 41st. */
    private static PointsThrow alike() {
        PointsThrow x = yardOf("~b32;~cdc;22d;^221");
        x.lever(1, 1);
        x.lever(2, 2);
        return x;
    }

    private static void apartEdges() {
        sentence("TOLD APART: the least n so that also any two of these would put some of the n elsewhere.");
        quiet("no yard", STATE, PointsThrow::new, PointsThrow::apart);
        quiet("none is let down", 4, () -> sent(yardOf("bc;01;23"), 4), PointsThrow::apart);
        due("no such switch", yardOf("=00").apart(), 1);
        due("one alone is noticed only", yardOf("01").apart(), 2);
        due("one alone, never noticed", yardOf("00").apart(), NONE);
        due("1", yardOf("a0").apart(), 1);
        due("noticed by the 25th", alike().noticed(), 25);
        due("41 is none", alike().apart(), NONE);
        due("noticed by the 24th", sent(alike(), 1).noticed(), 24);
        due("40", sent(alike(), 1).apart(), 40);
        due("39", sent(alike(), 2).apart(), 39);
        due("two are alike for good", yardOf("0b;01").apart(), NONE);
        due("though noticed", yardOf("0b;01").noticed(), 4);
        sentence("`int apart()`: TOLD APART; NONE: by none of 1 to 40. STATE.");
        due("not noticed, so not told apart", yardOf("01b;22").apart(), NONE);
        due("noticed last", yardOf("bc;01;23").apart(), 4);
    }

    private static void goesRoundIsTakenAway() {
        sentence("(A TRUCK that GOES ROUND is taken away, and STANDS are as ahead; its SIDING is NONE.)");
        // The first stops in 0, all later ones go round; a stuck, all stop in 0.
        due("elsewhere than a siding", yardOf("0b;=b").noticed(), 2);
        due("told apart by it", yardOf("0b;=b").apart(), 2);
        due("a stuck goes round at once", yardOf("a0").noticed(), 1);
        due("all go round, stuck or not", yardOf("bb;=b").noticed(), NONE);
        PointsThrow again = yardOf("01");
        due("two", again.noticed(), 2);
        readNext(again, "bb;=b");
        due("all go round, behind a yard where none did", again.noticed(), NONE);
        // Wanted are sidings: one that goes round explains none.
        due("wanted behind it", wanting("0b;=b", 0, 0).which(), 1);
        due("wanted as it is", wanting("a", 0).which(), 0);
        quiet("stands are as ahead", NONE, () -> sent(yardOf("0bb;~ccb;^bb"), 1), PointsThrow::noticed);
    }
}
