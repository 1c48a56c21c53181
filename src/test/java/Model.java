import java.util.ArrayDeque;
import java.util.ArrayList;
import java.util.Arrays;
import java.util.HashMap;
import java.util.HashSet;
import java.util.List;
import java.util.Map;
import java.util.Set;
import java.util.regex.Matcher;
import java.util.regex.Pattern;

/** The document's words done slowly, one by one: what PointsThrow is compared with. */
final class Model {
    static final int NONE = -1, UNKNOWN = -101, OUTSIDE = -102, STATE = -103, FULL = -104;
    private static final String ONE = "[=~^]?[a-j0-9]{1,3}";
    private static final Pattern YARD = Pattern.compile(ONE + "(;" + ONE + "){0,9}");

    private String page = "";
    private boolean hasYard;
    private List<String> ways = new ArrayList<>();
    private List<Integer> kinds = new ArrayList<>();
    /** For each switch the way of each stand. */
    private List<List<Integer>> pointing = new ArrayList<>();
    private List<Integer> stands = new ArrayList<>();
    private List<List<Integer>> sidings = emptySidings();
    private List<Integer> keptStands;
    private List<List<Integer>> keptSidings;
    private final List<Integer> wanted = new ArrayList<>();
    private int yards;
    private int plans;

    private static List<List<Integer>> emptySidings() {
        List<List<Integer>> all = new ArrayList<>();
        for (int i = 0; i < 10; i++) {
            all.add(new ArrayList<>());
        }
        return all;
    }

    private static List<List<Integer>> copyOf(List<List<Integer>> from) {
        List<List<Integer>> all = new ArrayList<>();
        for (List<Integer> one : from) {
            all.add(new ArrayList<>(one));
        }
        return all;
    }

    private static boolean canBegin(String text) {
        Matcher m = YARD.matcher(text);
        return m.matches() || m.hitEnd();
    }

    private int trucks() {
        int all = 0;
        for (List<Integer> s : sidings) {
            all += s.size();
        }
        return all;
    }

    int letters(long w) {
        StringBuilder more = new StringBuilder();
        boolean ended = false;
        for (int i = 0; i < 8; i++) {
            int b = (int) ((w >> (8 * i)) & 0xff);
            if (b > 126 || (ended && b != 0)) {
                return OUTSIDE;
            }
            if (b == 0) {
                ended = true;
            } else {
                more.append((char) b);
            }
        }
        if (page.length() + more.length() > 50) {
            return FULL;
        }
        page += more;
        return page.length();
    }

    int blank() {
        int n = page.length();
        page = "";
        return n;
    }

    int fault() {
        for (int i = 0; i < page.length(); i++) {
            if (!canBegin(page.substring(0, i + 1))) {
                return i;
            }
        }
        return page.length();
    }

    int yard() {
        if (!YARD.matcher(page).matches()) {
            return STATE;
        }
        String[] parts = page.split(";");
        for (char c : page.toCharArray()) {
            if (c >= 'a' && c <= 'j' && c - 'a' >= parts.length) {
                return STATE;
            }
        }
        ways = new ArrayList<>();
        kinds = new ArrayList<>();
        pointing = new ArrayList<>();
        stands = new ArrayList<>();
        for (String part : parts) {
            int kind = Math.max(0, "?=~^".indexOf(part.charAt(0)));
            String w = kind > 0 ? part.substring(1) : part;
            List<Integer> row = new ArrayList<>();
            for (int i = 0; i < w.length(); i++) {
                row.add(i);
                if (kind == 3) {
                    row.add(i);
                }
            }
            for (int i = w.length() - 2; kind == 2 && i > 0; i--) {
                row.add(i);
            }
            ways.add(w);
            kinds.add(kind);
            pointing.add(row);
            stands.add(0);
        }
        sidings = emptySidings();
        keptStands = null;
        hasYard = true;
        yards++;
        page = "";
        return parts.length;
    }

    private boolean unknown(int point) {
        return point < 0 || point >= ways.size();
    }

    private int place(int point, int way) {
        char c = ways.get(point).charAt(way);
        return c >= 'a' ? 10 + c - 'a' : c - '0';
    }

    int about(int point, int what) {
        if (unknown(point)) {
            return UNKNOWN;
        }
        switch (what) {
            case 0: return kinds.get(point);
            case 1: return ways.get(point).length();
            case 2: return stands.get(point);
            case 3: return pointing.get(point).size();
            case 4: return pointing.get(point).get(stands.get(point));
            case 10: case 11: case 12:
                return what - 10 < ways.get(point).length() ? place(point, what - 10) : NONE;
            default: return OUTSIDE;
        }
    }

    int as(int point, int kind) {
        if (unknown(point)) {
            return UNKNOWN;
        }
        if (kind < 0 || kind > 3) {
            return OUTSIDE;
        }
        int own = kinds.get(point);
        return kind == 0 || kind == own || kind == 1 && own == 3 ? point : NONE;
    }

    int lever(int point, int way) {
        if (unknown(point)) {
            return UNKNOWN;
        }
        if (way < 0 || way >= ways.get(point).length()) {
            return OUTSIDE;
        }
        int was = stands.get(point);
        stands.set(point, pointing.get(point).indexOf(way));
        return was;
    }

    int anew() {
        if (!hasYard) {
            return STATE;
        }
        int n = trucks();
        for (int i = 0; i < stands.size(); i++) {
            stands.set(i, 0);
        }
        sidings = emptySidings();
        return n;
    }

    private void turn(List<Integer> now, int point) {
        if (kinds.get(point) != 1) {
            now.set(point, (now.get(point) + 1) % pointing.get(point).size());
        }
    }

    private int moveFrom(List<Integer> now, int point, int stuck) {
        int next = place(point, pointing.get(point).get(now.get(point)));
        if (point != stuck) {
            turn(now, point);
        }
        return next;
    }

    private int movesMade;

    /** The siding; NONE, and all is as ahead. */
    private int send(List<Integer> now, int stuck) {
        List<Integer> ahead = new ArrayList<>(now);
        int at = 10;
        for (movesMade = 1; movesMade <= 500; movesMade++) {
            at = moveFrom(now, at - 10, stuck);
            if (at < 10) {
                return at;
            }
        }
        movesMade = 500;
        for (int i = 0; i < now.size(); i++) {
            now.set(i, ahead.get(i));
        }
        return NONE;
    }

    int down() {
        if (!hasYard) {
            return STATE;
        }
        int n = trucks();
        if (n >= 60) {
            return FULL;
        }
        int s = send(stands, NONE);
        if (s != NONE) {
            sidings.get(s).add(n);
        }
        return s;
    }

    int many(int siding) {
        return siding < 0 || siding > 9 ? UNKNOWN : sidings.get(siding).size();
    }

    int truck(int siding, int i) {
        if (siding < 0 || siding > 9) {
            return UNKNOWN;
        }
        if (i < 0 || i > 59) {
            return OUTSIDE;
        }
        return i < sidings.get(siding).size() ? sidings.get(siding).get(i) : NONE;
    }

    int moves() {
        if (!hasYard) {
            return STATE;
        }
        send(new ArrayList<>(stands), NONE);
        return movesMade;
    }

    int round() {
        if (!hasYard) {
            return STATE;
        }
        List<Integer> now = new ArrayList<>(stands);
        List<List<Integer>> seen = new ArrayList<>();
        int at = 10;
        for (int m = 0; m <= 1000; m++) {
            List<Integer> all = new ArrayList<>(now);
            all.add(at);
            seen.add(all);
            if (at < 10) {
                break;
            }
            at = moveFrom(now, at - 10, NONE);
        }
        for (int p = 1; 500 + p < seen.size(); p++) {
            if (seen.get(500).equals(seen.get(500 + p))) {
                return p;
            }
        }
        return NONE;
    }

    private Set<Integer> reached(int from) {
        Set<Integer> all = new HashSet<>();
        ArrayDeque<Integer> open = new ArrayDeque<>();
        open.add(from);
        while (!open.isEmpty()) {
            int point = open.poll();
            for (int w = 0; w < ways.get(point).length(); w++) {
                int p = place(point, w);
                if (p >= 10 && all.add(p - 10)) {
                    open.add(p - 10);
                }
            }
        }
        return all;
    }

    private Set<Integer> comeTo() {
        Set<Integer> all = reached(0);
        all.add(0);
        return all;
    }

    int straight() {
        if (!hasYard) {
            return STATE;
        }
        for (int i : comeTo()) {
            if (reached(i).contains(i)) {
                return 0;
            }
        }
        return 1;
    }

    int nth(int n) {
        if (straight() != 1) {
            return STATE;
        }
        if (n < 1 || n > 1000000) {
            return OUTSIDE;
        }
        List<Integer> now = new ArrayList<>(stands);
        int s = NONE;
        for (int i = 0; i < n; i++) {
            s = send(now, NONE);
        }
        return s;
    }

    int behind(int n, int point) {
        if (unknown(point)) {
            return UNKNOWN;
        }
        if (straight() != 1) {
            return STATE;
        }
        if (n < 1 || n > 1000000) {
            return OUTSIDE;
        }
        List<Integer> now = new ArrayList<>(stands);
        for (int i = 0; i < n; i++) {
            send(now, NONE);
        }
        return now.get(point);
    }

    /** One truck taken back: each switch on its way pointed, ahead of it, where it stood one turn before. */
    private void takeBack(List<Integer> now) {
        int at = 10;
        while (at >= 10) {
            int point = at - 10;
            int count = pointing.get(point).size();
            if (kinds.get(point) != 1) {
                now.set(point, (now.get(point) + count - 1) % count);
            }
            at = place(point, pointing.get(point).get(now.get(point)));
        }
    }

    int ago(int n, int point) {
        if (unknown(point)) {
            return UNKNOWN;
        }
        if (straight() != 1) {
            return STATE;
        }
        if (n < 0 || n > 1000000) {
            return OUTSIDE;
        }
        List<Integer> now = new ArrayList<>(stands);
        for (int i = 0; i < n; i++) {
            takeBack(now);
        }
        List<Integer> check = new ArrayList<>(now);
        for (int i = 0; i < n; i++) {
            send(check, NONE);
        }
        if (!check.equals(stands)) {
            throw new IllegalStateException("the model's way back is wrong");
        }
        return now.get(point);
    }

    int want(int siding) {
        if (siding < 0 || siding > 9) {
            return UNKNOWN;
        }
        if (wanted.size() == 8) {
            return FULL;
        }
        wanted.add(siding);
        return wanted.size();
    }

    int clear() {
        int n = wanted.size();
        wanted.clear();
        return n;
    }

    private boolean comesTrue(List<Integer> from, int stuck) {
        List<Integer> now = new ArrayList<>(from);
        for (int s : wanted) {
            if (send(now, stuck) != s) {
                return false;
            }
        }
        return true;
    }

    private int radix() {
        int all = 1;
        for (List<Integer> p : pointing) {
            all *= p.size();
        }
        return all;
    }

    /** The stands in the order of the document: by a, then b and so on. */
    private List<Integer> standsOf(int code) {
        Integer[] row = new Integer[pointing.size()];
        int rest = code;
        for (int i = row.length - 1; i >= 0; i--) {
            row[i] = rest % pointing.get(i).size();
            rest /= pointing.get(i).size();
        }
        return new ArrayList<>(Arrays.asList(row));
    }

    private boolean mayNotPlan() {
        return ways.size() > 6 || wanted.isEmpty() || plans >= 20;
    }

    int begin(int what) {
        if (!hasYard) {
            return STATE;
        }
        if (what != 0 && (what < 10 || what > 15)) {
            return OUTSIDE;
        }
        if (mayNotPlan()) {
            return STATE;
        }
        plans++;
        List<Integer> best = null;
        int fewest = 99;
        for (int code = 0; code < radix(); code++) {
            List<Integer> row = standsOf(code);
            int differing = 0;
            for (int i = 0; i < row.size(); i++) {
                differing += row.get(i).equals(stands.get(i)) ? 0 : 1;
            }
            if (differing < fewest && comesTrue(row, NONE)) {
                fewest = differing;
                best = row;
            }
        }
        if (best == null) {
            return NONE;
        }
        return what == 0 ? fewest : what - 10 < best.size() ? best.get(what - 10) : NONE;
    }

    int hands() {
        if (straight() != 1 || mayNotPlan()) {
            return STATE;
        }
        plans++;
        Map<List<Integer>, Integer> costs = new HashMap<>();
        costs.put(stands, 0);
        for (int s : wanted) {
            spreadThrows(costs);
            Map<List<Integer>, Integer> after = new HashMap<>();
            for (Map.Entry<List<Integer>, Integer> e : costs.entrySet()) {
                List<Integer> now = new ArrayList<>(e.getKey());
                if (send(now, NONE) == s) {
                    after.merge(now, e.getValue(), Math::min);
                }
            }
            costs = after;
        }
        return costs.isEmpty() ? NONE : java.util.Collections.min(costs.values());
    }

    /** Any switch may be thrown to any way, as often as it helps. */
    private void spreadThrows(Map<List<Integer>, Integer> costs) {
        ArrayDeque<List<Integer>> open = new ArrayDeque<>(costs.keySet());
        while (!open.isEmpty()) {
            List<Integer> now = open.poll();
            int cost = costs.get(now) + 1;
            for (int i = 0; i < now.size(); i++) {
                for (int w = 0; w < ways.get(i).length(); w++) {
                    List<Integer> thrown = new ArrayList<>(now);
                    thrown.set(i, pointing.get(i).indexOf(w));
                    if (costs.getOrDefault(thrown, 999) > cost) {
                        costs.put(thrown, cost);
                        open.add(thrown);
                    }
                }
            }
        }
    }

    int empty(int siding) {
        if (siding < 0 || siding > 9) {
            return UNKNOWN;
        }
        if (!hasYard) {
            return STATE;
        }
        List<Integer> now = new ArrayList<>(stands);
        for (int n = 0; n <= 200; n++) {
            if (send(now, NONE) == siding) {
                return n;
            }
        }
        return NONE;
    }

    int which() {
        if (!hasYard || wanted.isEmpty()) {
            return STATE;
        }
        int bits = comesTrue(stands, NONE) ? 1024 : 0;
        for (int i = 0; i < ways.size(); i++) {
            bits |= comesTrue(stands, i) ? 1 << i : 0;
        }
        return bits;
    }

    private List<Integer> stops(int stuck, int n) {
        List<Integer> now = new ArrayList<>(stands);
        List<Integer> row = new ArrayList<>();
        for (int i = 0; i < n; i++) {
            row.add(send(now, stuck));
        }
        return row;
    }

    private int leastTelling(boolean pairsToo) {
        if (!hasYard) {
            return STATE;
        }
        List<List<Integer>> rows = new ArrayList<>();
        for (int i : comeTo()) {
            if (kinds.get(i) != 1 && pointing.get(i).size() > 1) {
                rows.add(stops(i, 40));
            }
        }
        List<Integer> plain = stops(NONE, 40);
        for (int n = 1; n <= 40; n++) {
            Set<List<Integer>> differing = new HashSet<>();
            boolean told = true;
            for (List<Integer> row : rows) {
                told &= !row.subList(0, n).equals(plain.subList(0, n));
                told &= differing.add(row.subList(0, n)) || !pairsToo;
            }
            if (told) {
                return n;
            }
        }
        return NONE;
    }

    int noticed() {
        return leastTelling(false);
    }

    int apart() {
        return leastTelling(true);
    }

    int image() {
        if (!hasYard) {
            return STATE;
        }
        keptStands = new ArrayList<>(stands);
        keptSidings = copyOf(sidings);
        return trucks();
    }

    int restore() {
        if (keptStands == null) {
            return STATE;
        }
        stands = new ArrayList<>(keptStands);
        sidings = copyOf(keptSidings);
        return trucks();
    }

    int count(int what) {
        int[] all = {ways.size(), trucks(), wanted.size(), page.length(), yards, plans};
        return what < 0 || what > 5 ? OUTSIDE : all[what];
    }

    long digest() {
        List<Integer> told = new ArrayList<>();
        for (int i = 0; i < ways.size(); i++) {
            for (int what : new int[] {0, 1, 2, 3, 4, 10, 11, 12}) {
                told.add(about(i, what));
            }
        }
        for (List<Integer> s : sidings) {
            told.add(s.size());
            told.addAll(s);
        }
        if (hasYard) {
            told.add(moves());
            told.add(straight());
            for (int s = 0; s < 10; s++) {
                told.add(empty(s));
            }
            told.add(noticed());
        }
        told.addAll(wanted);
        for (char c : page.toCharArray()) {
            told.add((int) c);
        }
        for (int what = 0; what < 6; what++) {
            told.add(count(what));
        }
        long h = 521;
        for (int v : told) {
            h = 31 * h + v;
        }
        return h;
    }
}
