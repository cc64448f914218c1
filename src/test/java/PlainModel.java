import java.util.ArrayList;
import java.util.Arrays;
import java.util.HashMap;
import java.util.HashSet;
import java.util.List;
import java.util.Map;
import java.util.Set;

/** The document once more, as plainly and as slowly as can be: what RoundDance is held against. */
final class PlainModel {
    static final int UNKNOWN = -1, OUTSIDE = -2, STATE = -3, FULL = -4, NO = -5, NONE = -6;

    /** All but the pad; goods[k] is the place of good k. */
    private static final class All {
        int n = 8;
        int[] goods = upTo(8);
        int[][] figures = new int[6][];
        int lame = 0, played = 1, lent = 0;
        int[] musics = {3, 3, 3, 3, 3, 3};
        int[] callers = {63, 63};
        int[] wants = new int[8];
        List<int[]> sights = new ArrayList<>();
        List<int[]> wishes = new ArrayList<>();

        All copy() {
            All c = new All();
            c.n = n;
            c.goods = goods.clone();
            for (int f = 0; f < 6; f++) {
                c.figures[f] = figures[f].clone();
            }
            c.lame = lame;
            c.played = played;
            c.lent = lent;
            c.musics = musics.clone();
            c.callers = callers.clone();
            c.wants = wants.clone();
            c.sights = new ArrayList<>(sights);
            c.wishes = new ArrayList<>(wishes);
            return c;
        }
    }

    private All a = new All();
    private final All[] images = new All[2];
    private String pad = "";

    PlainModel() {
        open(8);
    }

    private static int[] upTo(int n) {
        int[] row = new int[n];
        for (int i = 0; i < n; i++) {
            row[i] = i;
        }
        return row;
    }

    private void open(int n) {
        a.n = n;
        a.goods = upTo(n);
        for (int f = 0; f < 6; f++) {
            a.figures[f] = upTo(n);
        }
        a.lame = 0;
        Arrays.fill(a.wants, -1);
        a.sights.clear();
        a.wishes.clear();
    }

    private boolean isPlace(int p) {
        return 0 <= p && p < a.n;
    }

    private static boolean isFigure(int f) {
        return 0 <= f && f <= 5;
    }

    private boolean isLame(int p) {
        return (a.lame & (1 << p)) != 0;
    }

    private boolean may(int f) {
        boolean music = a.musics[f] == 3 || a.musics[f] == a.played;
        return music && (a.lent & (1 << f)) == 0;
    }

    private List<Integer> mayBe() {
        List<Integer> all = new ArrayList<>();
        for (int f = 0; f < 6; f++) {
            if (may(f)) {
                all.add(f);
            }
        }
        return all;
    }

    private int danced(int f, int place) {
        if (isLame(place)) {
            return place;
        }
        int p = a.figures[f][place];
        int passed = 0;
        while (isLame(p)) {
            p = a.figures[f][p];
            passed++;
            if (passed > 20) {
                return place;
            }
        }
        return p;
    }

    private int[] dancedAll(int f, int[] goods) {
        int[] then = new int[goods.length];
        for (int k = 0; k < goods.length; k++) {
            then[k] = danced(f, goods[k]);
        }
        return then;
    }

    int places(int n) {
        if (n < 3 || n > 8) {
            return OUTSIDE;
        }
        int was = a.n;
        open(n);
        return was;
    }

    int say(int sign) {
        if (sign < 33 || sign > 126) {
            return OUTSIDE;
        }
        if (pad.length() == 30) {
            return FULL;
        }
        pad += (char) sign;
        return pad.length();
    }

    int wipe() {
        int was = pad.length();
        pad = "";
        return was;
    }

    private static boolean isStart(String text, String alphabet) {
        for (int i = 0; i < text.length(); i++) {
            if (alphabet.indexOf(text.charAt(i)) < 0 || text.indexOf(text.charAt(i)) != i) {
                return false;
            }
        }
        return true;
    }

    private static boolean isRow(String text) {
        return text.matches("[A-F]{0,20}");
    }

    int fault(int how) {
        if (how < 0 || how > 2) {
            return OUTSIDE;
        }
        String alphabet = how == 0 ? "01234567".substring(0, a.n) : "abcdefgh".substring(0, a.n);
        for (int i = 0; i < pad.length(); i++) {
            String start = pad.substring(0, i + 1);
            if (how == 1 ? !isRow(start) : !isStart(start, alphabet)) {
                return i;
            }
        }
        return how == 1 || pad.length() == a.n ? NONE : pad.length();
    }

    int figure(int f) {
        if (!isFigure(f)) {
            return UNKNOWN;
        }
        if (fault(0) != NONE) {
            return NO;
        }
        for (int p = 0; p < a.n; p++) {
            a.figures[f][p] = pad.charAt(p) - '0';
        }
        pad = "";
        return 1;
    }

    int goes(int f, int place, int danced) {
        if (!isFigure(f) || !isPlace(place)) {
            return UNKNOWN;
        }
        if (danced != 0 && danced != 1) {
            return OUTSIDE;
        }
        return danced == 0 ? a.figures[f][place] : danced(f, place);
    }

    int set(int which, int v) {
        int was;
        if (which == 0 && v >= 0 && v < Math.pow(2, a.n)) {
            was = a.lame;
            a.lame = v;
        } else if (which == 1 && (v == 1 || v == 2)) {
            was = a.played;
            a.played = v;
        } else if (which == 2 && v >= 0 && v < 64) {
            was = a.lent;
            a.lent = v;
        } else {
            return OUTSIDE;
        }
        return was;
    }

    int music(int f, int v) {
        if (!isFigure(f)) {
            return UNKNOWN;
        }
        if (v < 1 || v > 3) {
            return OUTSIDE;
        }
        int was = a.musics[f];
        a.musics[f] = v;
        return was;
    }

    int judge() {
        if (fault(1) != NONE) {
            return NO;
        }
        for (int i = 0; i < pad.length(); i++) {
            if (!may(pad.charAt(i) - 'A')) {
                return i;
            }
        }
        return NONE;
    }

    int dance() {
        if (judge() != NONE) {
            return NO;
        }
        for (char c : pad.toCharArray()) {
            a.goods = dancedAll(c - 'A', a.goods);
        }
        return wipe();
    }

    int home() {
        int away = 0;
        for (int k = 0; k < a.n; k++) {
            if (a.goods[k] != k) {
                away++;
            }
        }
        a.goods = upTo(a.n);
        return away;
    }

    int where(int k, int what) {
        if (!isPlace(k)) {
            return UNKNOWN;
        }
        if (what == 0) {
            return a.goods[k];
        }
        if (what == 1) {
            for (int good = 0; good < a.n; good++) {
                if (a.goods[good] == k) {
                    return good;
                }
            }
        }
        return OUTSIDE;
    }

    int length() {
        if (fault(1) != NONE) {
            return NO;
        }
        int[] goods = upTo(a.n);
        int times = 0;
        do {
            for (char c : pad.toCharArray()) {
                goods = dancedAll(c - 'A', goods);
            }
            times++;
        } while (!Arrays.equals(goods, upTo(a.n)));
        return times;
    }

    int sign(int f) {
        if (!isFigure(f)) {
            return UNKNOWN;
        }
        int[] row = dancedAll(f, upTo(a.n));
        int exchanges = 0;
        for (int i = 0; i < a.n; i++) {
            while (row[i] != i) {
                int j = row[i];
                row[i] = row[j];
                row[j] = j;
                exchanges++;
            }
        }
        return exchanges % 2 == 0 ? 1 : 0;
    }

    int want(int good, int place) {
        if (!isPlace(good) || !(place == -1 || isPlace(place))) {
            return UNKNOWN;
        }
        for (int k = 0; k < a.n; k++) {
            if (k != good && place != -1 && a.wants[k] == place) {
                return STATE;
            }
        }
        int was = a.wants[good];
        a.wants[good] = place;
        return was == -1 ? NONE : was;
    }

    private boolean wantsHold(int[] goods) {
        for (int k = 0; k < a.n; k++) {
            if (a.wants[k] != -1 && a.wants[k] != goods[k]) {
                return false;
            }
        }
        return true;
    }

    /** The first of the shortest rows, as letters; null, if there is none. */
    private String shortest() {
        Set<String> known = new HashSet<>();
        Map<String, String> level = new HashMap<>();
        Map<String, int[]> goodsOf = new HashMap<>();
        String start = Arrays.toString(a.goods);
        level.put(start, "");
        goodsOf.put(start, a.goods);
        known.add(start);
        while (!level.isEmpty()) {
            String best = null;
            for (Map.Entry<String, String> e : level.entrySet()) {
                if (wantsHold(goodsOf.get(e.getKey())) && (best == null || e.getValue().compareTo(best) < 0)) {
                    best = e.getValue();
                }
            }
            if (best != null) {
                return best;
            }
            Map<String, String> next = new HashMap<>();
            for (Map.Entry<String, String> e : level.entrySet()) {
                for (int f : mayBe()) {
                    int[] goods = dancedAll(f, goodsOf.get(e.getKey()));
                    String key = Arrays.toString(goods);
                    String row = e.getValue() + (char) ('A' + f);
                    if (!known.contains(key) && (!next.containsKey(key) || row.compareTo(next.get(key)) < 0)) {
                        next.put(key, row);
                        goodsOf.put(key, goods);
                    }
                }
            }
            known.addAll(next.keySet());
            level = next;
        }
        return null;
    }

    int fewest(int i) {
        String row = shortest();
        if (row == null) {
            return NONE;
        }
        if (i == -1) {
            return row.length();
        }
        return i >= 0 && i < row.length() ? row.charAt(i) : NONE;
    }

    private Set<String> allStandings() {
        Set<String> known = new HashSet<>();
        List<int[]> open = new ArrayList<>();
        open.add(a.goods);
        known.add(Arrays.toString(a.goods));
        for (int i = 0; i < open.size(); i++) {
            for (int f : mayBe()) {
                int[] next = dancedAll(f, open.get(i));
                if (known.add(Arrays.toString(next))) {
                    open.add(next);
                }
            }
        }
        return known;
    }

    int standings() {
        return allStandings().size();
    }

    int canBe() {
        if (fault(2) != NONE) {
            return NO;
        }
        int[] goods = new int[a.n];
        for (int p = 0; p < a.n; p++) {
            goods[pad.charAt(p) - 'a'] = p;
        }
        return allStandings().contains(Arrays.toString(goods)) ? 1 : 0;
    }

    int sure(int good) {
        if (!isPlace(good)) {
            return UNKNOWN;
        }
        int bits = 0;
        List<Integer> open = new ArrayList<>();
        open.add(a.goods[good]);
        for (int i = 0; i < open.size(); i++) {
            bits |= 1 << open.get(i);
            for (int f : mayBe()) {
                int next = danced(f, open.get(i));
                if (!open.contains(next)) {
                    open.add(next);
                }
            }
        }
        return bits;
    }

    int caller(int caller, int figures) {
        if (caller != 0 && caller != 1) {
            return UNKNOWN;
        }
        if (figures < 0 || figures > 63) {
            return OUTSIDE;
        }
        int was = a.callers[caller];
        a.callers[caller] = figures;
        return was;
    }

    /** Whether the good is there by at most so many calls. */
    private boolean forcedBy(int at, int aim, int turn, int calls, Map<Integer, Boolean> memo) {
        if (at == aim) {
            return true;
        }
        if (calls == 0) {
            return false;
        }
        int key = (calls * 2 + turn) * 8 + at;
        if (!memo.containsKey(key)) {
            int choices = 0;
            int good = 0;
            for (int f : mayBe()) {
                if ((a.callers[turn] & (1 << f)) != 0) {
                    choices++;
                    good += forcedBy(danced(f, at), aim, 1 - turn, calls - 1, memo) ? 1 : 0;
                }
            }
            if (choices == 0) {
                choices = 1;
                good = forcedBy(at, aim, 1 - turn, calls - 1, memo) ? 1 : 0;
            }
            memo.put(key, turn == 0 ? good > 0 : good == choices);
        }
        return memo.get(key);
    }

    int forced(int good, int place) {
        if (!isPlace(good) || !isPlace(place)) {
            return UNKNOWN;
        }
        Map<Integer, Boolean> memo = new HashMap<>();
        for (int calls = 0; calls <= 60; calls++) {
            if (forcedBy(a.goods[good], place, 0, calls, memo)) {
                return calls;
            }
        }
        return NONE;
    }

    int seen(int behind, int good, int place) {
        if (!isPlace(good) || !isPlace(place)) {
            return UNKNOWN;
        }
        if (behind < 0 || behind > 12) {
            return OUTSIDE;
        }
        if (a.sights.size() == 6) {
            return FULL;
        }
        a.sights.add(new int[] {behind, good, place});
        return a.sights.size();
    }

    int forget() {
        int was = a.sights.size();
        a.sights.clear();
        return was;
    }

    private boolean sightsHold(int behind, int[] goods) {
        for (int[] sight : a.sights) {
            if (sight[0] == behind && goods[sight[1]] != sight[2]) {
                return false;
            }
        }
        return true;
    }

    private long ends(int behind, int m, int[] goods, Map<String, Long> memo) {
        if (!sightsHold(behind, goods)) {
            return 0;
        }
        if (behind == m) {
            return 1;
        }
        String key = behind + Arrays.toString(goods);
        Long known = memo.get(key);
        if (known == null) {
            long sum = 0;
            for (int f : mayBe()) {
                sum += ends(behind + 1, m, dancedAll(f, goods), memo);
            }
            known = sum;
            memo.put(key, known);
        }
        return known;
    }

    long rows(int m) {
        if (m < 0 || m > 12) {
            return OUTSIDE;
        }
        return ends(0, m, upTo(a.n), new HashMap<>());
    }

    int came(int m, int i, int what) {
        if (m < 0 || m > 12 || i < 0 || i >= m || what < 0 || what > 1) {
            return OUTSIDE;
        }
        Map<String, Long> memo = new HashMap<>();
        if (ends(0, m, upTo(a.n), memo) == 0) {
            return NONE;
        }
        Map<String, int[]> at = new HashMap<>();
        at.put("", upTo(a.n));
        int figures = 0;
        for (int behind = 0; behind <= i; behind++) {
            Map<String, int[]> next = new HashMap<>();
            figures = 0;
            int first = -1;
            for (int[] goods : at.values()) {
                for (int f : mayBe()) {
                    int[] then = dancedAll(f, goods);
                    if (ends(behind + 1, m, then, memo) > 0) {
                        figures |= 1 << f;
                        first = first == -1 ? f : Math.min(first, f);
                        next.put(Arrays.toString(then), then);
                    }
                }
            }
            if (what == 0) {
                // The first row alone goes on.
                int[] only = dancedAll(first, at.values().iterator().next());
                next.clear();
                next.put("", only);
                figures = 'A' + first;
            }
            at = next;
        }
        return figures;
    }

    int wish(int good, int place, int worth) {
        if (!isPlace(good) || !isPlace(place)) {
            return UNKNOWN;
        }
        if (worth < 1 || worth > 99) {
            return OUTSIDE;
        }
        if (a.wishes.size() == 6) {
            return FULL;
        }
        a.wishes.add(new int[] {good, place, worth});
        return a.wishes.size();
    }

    int drop() {
        int was = a.wishes.size();
        a.wishes.clear();
        return was;
    }

    private int worthOf(String row) {
        List<int[]> times = new ArrayList<>();
        times.add(a.goods);
        for (char c : row.toCharArray()) {
            times.add(dancedAll(c - 'A', times.get(times.size() - 1)));
        }
        int worth = 0;
        for (int[] wish : a.wishes) {
            boolean holds = false;
            for (int[] goods : times) {
                holds |= goods[wish[0]] == wish[1];
            }
            worth += holds ? wish[2] : 0;
        }
        return worth;
    }

    private void rowsOf(int m, String start, List<String> all) {
        if (start.length() == m) {
            all.add(start);
            return;
        }
        for (int f : mayBe()) {
            rowsOf(m, start + (char) ('A' + f), all);
        }
    }

    int served(int m, int i) {
        if (m < 0 || m > 6) {
            return OUTSIDE;
        }
        List<String> all = new ArrayList<>();
        rowsOf(m, "", all);
        int best = NONE;
        String bestRow = "";
        for (String row : all) {
            int worth = worthOf(row);
            if (worth > best) {
                best = worth;
                bestRow = row;
            }
        }
        if (i == -1) {
            return best;
        }
        return i >= 0 && i < bestRow.length() ? bestRow.charAt(i) : NONE;
    }

    int night(int seed, int m, int good, int what) {
        if (!isPlace(good)) {
            return UNKNOWN;
        }
        if (seed < 0 || seed > 9999 || m < 0 || m > 99 || what < 0 || what > 1) {
            return OUTSIDE;
        }
        int place = a.goods[good];
        int held = 1 << place;
        long x = seed;
        for (int i = 0; i < m; i++) {
            x = (75 * x + 74) % 65537;
            if (!mayBe().isEmpty()) {
                place = danced(mayBe().get((int) (x % mayBe().size())), place);
                held |= 1 << place;
            }
        }
        return what == 0 ? held : place;
    }

    int image(int n) {
        if (n != 0 && n != 1) {
            return OUTSIDE;
        }
        images[n] = a.copy();
        return 1;
    }

    int restore(int n) {
        if (n != 0 && n != 1) {
            return OUTSIDE;
        }
        if (images[n] == null) {
            return STATE;
        }
        a = images[n].copy();
        return 1;
    }

    int told(int what) {
        int[] plain = {pad.length(), a.n, a.lame, a.played, a.lent, a.sights.size(), a.wishes.size()};
        if (what >= 0 && what < plain.length) {
            return plain[what];
        }
        if (what >= 10 && what <= 15) {
            return a.musics[what - 10];
        }
        if (what == 20 || what == 21) {
            return a.callers[what - 20];
        }
        if (what >= 30 && what < 38 && what - 30 < a.n) {
            return a.goods[what - 30];
        }
        if (what >= 40 && what < 48 && what - 40 < a.n) {
            return a.wants[what - 40] == -1 ? NONE : a.wants[what - 40];
        }
        return OUTSIDE;
    }
}
