/** Runs of calls, drawn by a fixed sequence of numbers, on PointsThrow and on the slow Model: all answers are alike. */
public final class ModelTest {
    private static final String[] CALLS = {
        "letters", "blank", "fault", "yard", "about", "as", "lever", "anew", "down", "many", "truck", "moves", "round",
        "straight", "nth", "behind", "ago", "want", "clear", "begin", "hands", "empty", "which", "noticed", "apart",
        "image", "restore", "count", "digest", "down", "down", "lever", "want", "want", "want", "which"};
    private static int wrong = 0;
    private static long answers = 0;

    private long seed;
    private final StringBuilder told = new StringBuilder();
    private PointsThrow real = new PointsThrow();
    private Model model = new Model();

    private ModelTest(long seed) {
        this.seed = seed * 7919 + 17;
    }

    public static void main(String[] args) {
        int runs = args.length > 0 ? Integer.parseInt(args[0]) : 900;
        for (int r = 0; r < runs; r++) {
            new ModelTest(r).run(r);
        }
        System.out.println("ModelTest: " + answers + " answers, " + wrong + " wrong");
        System.exit(wrong == 0 ? 0 : 1);
    }

    private int draw(int below) {
        seed = seed * 6364136223846793005L + 1442695040888963407L;
        return (int) ((seed >>> 33) % below);
    }

    private void run(int r) {
        int before = wrong;
        if (draw(4) > 0) {
            read(drawYard());
        }
        for (int c = 0; c < 150 && wrong == before; c++) {
            if (draw(40) == 0) {
                same("blank", real.blank(), model.blank());
                read(drawYard());
            }
            call(CALLS[draw(CALLS.length)]);
        }
        if (wrong > before) {
            System.out.println("run " + r + ": " + told);
        }
    }

    private void read(String text) {
        for (int i = 0; i < text.length(); i += 8) {
            long w = 0;
            for (int k = 0; k < 8 && i + k < text.length(); k++) {
                w |= (long) text.charAt(i + k) << 8 * k;
            }
            same("letters " + text.substring(i, Math.min(i + 8, text.length())), real.letters(w), model.letters(w));
        }
        same("fault", real.fault(), model.fault());
        same("yard", real.yard(), model.yard());
    }

    private String drawYard() {
        int size = draw(3) == 0 ? 1 + draw(10) : 1 + draw(5);
        boolean straight = draw(3) > 0;
        int digits = 1 + draw(9);
        int sidings = 1 + draw(10);
        boolean signs = draw(4) > 0;
        StringBuilder text = new StringBuilder();
        for (int i = 0; i < size; i++) {
            text.append(i > 0 ? ";" : "");
            if (signs && draw(2) == 0) {
                text.append("=~^".charAt(draw(3)));
            }
            int ways = 1 + draw(3);
            for (int w = 0; w < ways; w++) {
                int least = straight ? i + 1 : 0;
                if (least >= size || draw(10) < digits) {
                    text.append((char) ('0' + draw(sidings)));
                } else {
                    text.append((char) ('a' + least + draw(size - least)));
                }
            }
        }
        if (draw(12) == 0) {
            text.setCharAt(draw(text.length()), "=~^;abjk059 /:`{".charAt(draw(16)));
        }
        return text.toString();
    }

    private int point() {
        int[] odd = {-1, 10, 11, Integer.MIN_VALUE, Integer.MAX_VALUE};
        return draw(12) == 0 ? odd[draw(odd.length)] : draw(draw(3) == 0 ? 10 : 4);
    }

    private int siding() {
        int[] odd = {-1, 10, 11, Integer.MIN_VALUE, Integer.MAX_VALUE};
        return draw(15) == 0 ? odd[draw(odd.length)] : draw(draw(2) == 0 ? 10 : 4);
    }

    private int amount() {
        int[] odd = {-1, 0, 1, 1000001, Integer.MIN_VALUE, Integer.MAX_VALUE};
        return draw(8) == 0 ? odd[draw(odd.length)] : draw(60) == 0 ? 1000000 - draw(3) : draw(draw(2) == 0 ? 20 : 3000);
    }

    private int small(int below) {
        int[] odd = {-1, below, below + 1, Integer.MIN_VALUE, Integer.MAX_VALUE};
        return draw(10) == 0 ? odd[draw(odd.length)] : draw(below);
    }

    private long drawLetters() {
        String signs = "=~^;;0123456789abcdefghij";
        long w = 0;
        int n = draw(9);
        for (int k = 0; k < n; k++) {
            int code = draw(30) == 0 ? draw(256) : signs.charAt(draw(signs.length()));
            w |= (long) code << 8 * k;
        }
        return w;
    }

    private void call(String name) {
        int a;
        int b;
        switch (name) {
            case "letters": long w = drawLetters(); same("letters " + w, real.letters(w), model.letters(w)); break;
            case "blank": same(name, real.blank(), model.blank()); break;
            case "fault": same(name, real.fault(), model.fault()); break;
            case "yard": same(name, real.yard(), model.yard()); break;
            case "about": a = point(); b = small(13); same(name(name, a, b), real.about(a, b), model.about(a, b)); break;
            case "as": a = point(); b = small(4); same(name(name, a, b), real.as(a, b), model.as(a, b)); break;
            case "lever": a = point(); b = small(3); same(name(name, a, b), real.lever(a, b), model.lever(a, b)); break;
            case "anew": if (draw(3) == 0) same(name, real.anew(), model.anew()); break;
            case "down": downSome(); break;
            case "many": a = siding(); same(name(name, a), real.many(a), model.many(a)); break;
            case "truck": a = siding(); b = small(draw(2) == 0 ? 60 : 4);
                same(name(name, a, b), real.truck(a, b), model.truck(a, b)); break;
            case "moves": same(name, real.moves(), model.moves()); break;
            case "round": same(name, real.round(), model.round()); break;
            case "straight": same(name, real.straight(), model.straight()); break;
            case "nth": a = amount(); same(name(name, a), real.nth(a), model.nth(a)); break;
            case "behind": a = amount(); b = point(); same(name(name, a, b), real.behind(a, b), model.behind(a, b)); break;
            case "ago": a = amount(); b = point(); same(name(name, a, b), real.ago(a, b), model.ago(a, b)); break;
            case "want": a = likelySiding(); same(name(name, a), real.want(a), model.want(a)); break;
            case "begin": a = draw(2) == 0 ? 0 : draw(4) > 0 ? 10 + draw(6) : small(18);
                same(name(name, a), real.begin(a), model.begin(a)); break;
            default: callMore(name);
        }
    }

    private void callMore(String name) {
        int a;
        switch (name) {
            case "clear": if (draw(3) == 0) same(name, real.clear(), model.clear()); break;
            case "hands": same(name, real.hands(), model.hands()); break;
            case "empty": a = siding(); same(name(name, a), real.empty(a), model.empty(a)); break;
            case "which": same(name, real.which(), model.which()); break;
            case "noticed": same(name, real.noticed(), model.noticed()); break;
            case "apart": same(name, real.apart(), model.apart()); break;
            case "image": same(name, real.image(), model.image()); break;
            case "restore": same(name, real.restore(), model.restore()); break;
            case "count": a = small(6); same(name(name, a), real.count(a), model.count(a)); break;
            default: same(name, real.digest(), model.digest());
        }
    }

    private void downSome() {
        int n = draw(10) == 0 ? 61 : 1 + draw(3);
        for (int i = 0; i < n; i++) {
            same("down", real.down(), model.down());
        }
    }

    /** Often what the next trucks do, so that plans come true now and then. */
    private int likelySiding() {
        if (draw(3) == 0) {
            return siding();
        }
        int next = real.nth(real.count(2) + 1);
        return next >= 0 ? next : draw(3);
    }

    private static String name(String call, int a) {
        return call + "(" + a + ")";
    }

    private static String name(String call, int a, int b) {
        return call + "(" + a + ", " + b + ")";
    }

    private void same(String call, long got, long due) {
        answers++;
        told.append(call).append(" = ").append(got).append("; ");
        if (got != due) {
            wrong++;
            System.out.println(call + " answered " + got + ", the model " + due);
        }
    }
}
