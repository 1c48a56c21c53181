import java.io.IOException;
import java.nio.file.Files;
import java.nio.file.Path;
import java.util.ArrayList;
import java.util.List;
import java.util.function.Supplier;
import java.util.function.ToLongFunction;

/**
 * What the tests by hand share: answers that are due, yards by their texts, sentences of the document. Tests extend it,
 * as a class without a package can't be imported.
 */
abstract class Due {
    static final int NONE = PointsThrow.NONE, UNKNOWN = PointsThrow.UNKNOWN, OUTSIDE = PointsThrow.OUTSIDE,
        STATE = PointsThrow.STATE, FULL = PointsThrow.FULL;
    static final int LEAST = Integer.MIN_VALUE, MOST = Integer.MAX_VALUE;
    private static int wrong = 0;
    private static int asked = 0;
    private static int sentences = 0;
    private static String document = null;
    private static String place = "";

    static void due(String what, long got, long want) {
        asked++;
        if (got != want) {
            wrong++;
            System.out.println(place + what + " answered " + got + ", due is " + want);
        }
    }

    /** What follows tests these words of DOC.md: words that are not there are a fault of the test. */
    static void sentence(String words) {
        sentences++;
        place = "\"" + words + "\": ";
        if (!document().isEmpty() && !document().contains(words)) {
            wrong++;
            System.out.println(place + "the document does not say so");
        }
    }

    /** Empty, if there is no DOC.md: the class can be tested without it. */
    private static String document() {
        if (document == null) {
            Path root = Path.of(System.getProperty("project.root", "."));
            try {
                document = Files.readString(root.resolve("../shared/DOC.md")).replaceAll("\\s+", " ");
            } catch (IOException e) {
                document = "";
            }
        }
        return document;
    }

    static void end(String name) {
        String told = sentences > 0 ? sentences + " sentences, " : "";
        System.out.println(name + ": " + told + asked + " answers, " + wrong + " wrong");
        System.exit(wrong == 0 ? 0 : 1);
    }

    static long pack(String text) {
        long w = 0;
        for (int k = 0; k < text.length(); k++) {
            w |= (long) text.charAt(k) << 8 * k;
        }
        return w;
    }

    static void write(PointsThrow x, String text) {
        for (int i = 0; i < text.length(); i += 8) {
            x.letters(pack(text.substring(i, Math.min(i + 8, text.length()))));
        }
    }

    static PointsThrow pageOf(String text) {
        PointsThrow x = new PointsThrow();
        write(x, text);
        return x;
    }

    static int faultOf(String text) {
        return pageOf(text).fault();
    }

    static int readOf(String text) {
        return pageOf(text).yard();
    }

    static PointsThrow yardOf(String text) {
        PointsThrow x = pageOf(text);
        due("yard of " + text, x.yard(), text.split(";").length);
        return x;
    }

    /** The slow model with the same yard. */
    static Model modelOf(String text) {
        Model m = new Model();
        for (char c : text.toCharArray()) {
            m.letters(c);
        }
        m.yard();
        return m;
    }

    static void readNext(PointsThrow x, String text) {
        write(x, text);
        due("next, yard of " + text, x.yard(), text.split(";").length);
    }

    static PointsThrow wanting(String text, int... sidings) {
        PointsThrow x = yardOf(text);
        wantAll(x, sidings);
        return x;
    }

    static void wantAll(PointsThrow x, int... sidings) {
        x.clear();
        for (int s : sidings) {
            x.want(s);
        }
    }

    static void downs(String what, PointsThrow x, int... sidings) {
        for (int i = 0; i < sidings.length; i++) {
            due(what + ", truck " + i, x.down(), sidings[i]);
        }
    }

    /** So many trucks, wherever they stop. */
    static PointsThrow sent(PointsThrow x, int trucks) {
        for (int i = 0; i < trucks; i++) {
            due("sent, truck " + i + " stops", x.down() >= 0 ? 1 : 0, 1);
        }
        return x;
    }

    /** A call that answers so, and leaves all as it is: a twin without the call answers alike from then on. */
    static void quiet(String what, long want, Supplier<PointsThrow> made, ToLongFunction<PointsThrow> call) {
        PointsThrow x = made.get();
        PointsThrow twin = made.get();
        due(what, call.applyAsLong(x), want);
        List<Long> told = allTold(x);
        List<Long> toldByTwin = allTold(twin);
        for (int i = 0; i < told.size(); i++) {
            due(what + ", changed? " + i, told.get(i), toldByTwin.get(i));
        }
    }

    /** What the object tells, and what it goes on with; its image is told by going on from it. */
    private static List<Long> allTold(PointsThrow x) {
        List<Long> all = new ArrayList<>();
        all.add(x.digest());
        for (int s = 0; s < 10; s++) {
            all.add((long) x.many(s));
            all.add((long) x.truck(s, 0));
        }
        for (int what = 0; what <= 5; what++) {
            all.add((long) x.count(what));
        }
        all.add((long) x.round());
        all.add((long) x.which());
        all.add((long) x.down());
        all.add(x.digest());
        all.add((long) x.restore());
        all.add(x.digest());
        all.add((long) x.down());
        all.add((long) x.fault());
        all.add((long) x.yard());
        all.add(x.digest());
        return all;
    }
}
