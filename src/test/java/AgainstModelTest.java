/**
 * Runs of drawn calls, each held against PlainModel; behind each call some of what told answers, too, and all of it
 * at a run's end. No object is used for more calls than the document promises anything about.
 */
public final class AgainstModelTest {
    private static final int SMALL_RUNS = 1700, WIDE_RUNS = 40, TRUTHFUL_RUNS = 60, WIDE_TRUTHFUL_RUNS = 6;
    private static final int MOST_CALLS = 512;
    /** What one drawn call may take at most: six figures told anew, and what is asked behind it. */
    private static final int DEAREST_DRAWN = 72;
    private static final int LEAST_TOLD = -1, MOST_TOLD = 50;
    private static final String[] CALLS = {
        "places", "say", "wipe", "fault", "figure", "goes", "set", "music", "judge", "dance", "home", "where",
        "length", "sign", "want", "fewest", "standings", "canBe", "sure", "caller", "forced", "seen", "forget",
        "rows", "came", "wish", "drop", "served", "night", "image", "restore", "told"};
    // How often each call is drawn, beside the others.
    private static final int[] WEIGHTS = {
        1, 6, 2, 4, 2, 4, 6, 4, 3, 3, 2, 5, 4, 4, 8, 14, 5, 4, 5, 5, 12, 8, 2, 9, 14, 6, 1, 9, 8, 2, 2, 2};

    private static long drawn = 1;
    private static int wrong = 0;
    private static long asked = 0;
    private static int mostUsed = 0;

    private final RoundDance x = new RoundDance();
    private final PlainModel y = new PlainModel();
    private final boolean wide;
    private final int run;
    private int calls = 0;
    private int used = 0;

    private AgainstModelTest(int run, boolean wide) {
        this.run = run;
        this.wide = wide;
    }

    private static int draw(int below) {
        drawn = drawn * 6364136223846793005L + 1442695040888963407L;
        return (int) ((drawn >>> 33) % below);
    }

    /** A number from low to high; now and then one beside them, or far off. */
    private static int about(int low, int high) {
        int kind = draw(40);
        if (kind == 0) {
            return low - 1;
        }
        if (kind == 1) {
            return high + 1;
        }
        if (kind == 2) {
            return new int[] {Integer.MIN_VALUE, Integer.MAX_VALUE, -7, 64, 1 << 20}[draw(5)];
        }
        return low + draw(high - low + 1);
    }

    /** Each answer is that of one call of the object. */
    private void same(String call, long got, long want) {
        asked++;
        used++;
        mostUsed = Math.max(mostUsed, used);
        if (got != want) {
            wrong++;
            if (wrong < 30) {
                System.out.println("run " + run + ", call " + calls + ": " + call + " answered " + got
                        + ", the model " + want);
            }
        }
    }

    private void write(String text) {
        same("wipe", x.wipe(), y.wipe());
        for (char c : text.toCharArray()) {
            same("say", x.say(c), y.say(c));
        }
    }

    private String shuffled(char first) {
        int n = y.told(1);
        StringBuilder text = new StringBuilder();
        for (int i = 0; i < n; i++) {
            text.insert(draw(i + 1), (char) (first + i));
        }
        return text.toString();
    }

    /** Some places exchanged alone: figures that do not make all that there is. */
    private String slight() {
        int n = y.told(1);
        char[] text = "01234567".substring(0, n).toCharArray();
        for (int i = draw(2); i >= 0; i--) {
            int p = draw(n);
            int q = draw(n);
            char c = text[p];
            text[p] = text[q];
            text[q] = c;
        }
        return new String(text);
    }

    private String row() {
        StringBuilder text = new StringBuilder();
        for (int i = draw(7) == 0 ? 20 + draw(2) : draw(6); i > 0; i--) {
            text.append((char) ('A' + draw(draw(30) == 0 ? 7 : 6)));
        }
        return text.toString();
    }

    private void open() {
        int n = wide ? 6 + draw(3) : 3 + draw(3);
        same("places", x.places(n), y.places(n));
        for (int f = 0; f < 6; f++) {
            if (draw(4) > 0) {
                write(draw(3) == 0 ? shuffled('0') : slight());
                same("figure", x.figure(f), y.figure(f));
            }
        }
        int lent = draw(3) == 0 ? draw(64) : 0;
        same("set", x.set(2, lent), y.set(2, lent));
    }

    private void call() {
        int sum = 0;
        for (int w : WEIGHTS) {
            sum += w;
        }
        int at = draw(sum);
        int i = 0;
        while (at >= WEIGHTS[i]) {
            at -= WEIGHTS[i];
            i++;
        }
        calls++;
        perform(CALLS[i]);
        askAgain();
        for (int more = draw(3); more > 0; more--) {
            tell(LEAST_TOLD + draw(MOST_TOLD - LEAST_TOLD), CALLS[i]);
        }
    }

    private void tell(int what, String behind) {
        same("told(" + what + ") behind " + behind, x.told(what), y.told(what));
    }

    private void tellAll() {
        for (int what = LEAST_TOLD; what < MOST_TOLD; what++) {
            tell(what, "a run");
        }
    }

    /** As many drawn calls as one object may answer. */
    private void runOfDrawnCalls() {
        open();
        while (used + DEAREST_DRAWN + MOST_TOLD - LEAST_TOLD <= MOST_CALLS) {
            call();
        }
        tellAll();
    }

    /** The same dear calls behind every other one: what a program keeps of them must not be too old. */
    private void askAgain() {
        if (calls % 3 == 0) {
            same("again fewest(-1)", x.fewest(-1), y.fewest(-1));
            same("again rows", x.rows(run % 4), y.rows(run % 4));
            same("again served", x.served(run % 3, -1), y.served(run % 3, -1));
            same("again served", x.served(run % 3, 0), y.served(run % 3, 0));
            same("again canBe", x.canBe(), y.canBe());
        }
    }

    private void perform(String name) {
        int last = y.told(1) - 1;
        int a;
        int b;
        int c;
        int d;
        switch (name) {
            case "places":
                if (draw(3) == 0) {
                    open();
                } else {
                    a = wide ? 99 : about(3, 5);
                    a = a > 5 && a < 9 ? 2 : a;
                    same("places", x.places(a), y.places(a));
                }
                break;
            case "say":
                a = about(33, 126);
                same("say " + a, x.say(a), y.say(a));
                break;
            case "wipe": same("wipe", x.wipe(), y.wipe()); break;
            case "fault":
                write(draw(3) == 0 ? row() : draw(2) == 0 ? shuffled('0') : shuffled('a'));
                for (int extra = draw(3) - draw(20); extra > 0; extra--) {
                    a = 48 + draw(60);
                    same("say", x.say(a), y.say(a));
                }
                a = about(0, 2);
                same("fault " + a, x.fault(a), y.fault(a));
                break;
            case "figure":
                write(draw(5) == 0 ? row() : draw(2) == 0 ? shuffled('0') : slight());
                a = about(0, 5);
                same("figure " + a, x.figure(a), y.figure(a));
                break;
            case "goes":
                a = about(0, 5);
                b = about(0, last);
                c = about(0, 1);
                same("goes " + a + " " + b + " " + c, x.goes(a, b, c), y.goes(a, b, c));
                break;
            case "set":
                a = about(0, 2);
                b = a == 0 ? about(0, (1 << last + 1) - 1) & draw(256) : a == 1 ? about(1, 2) : about(0, 63);
                same("set " + a + " " + b, x.set(a, b), y.set(a, b));
                break;
            case "music":
                a = about(0, 5);
                b = about(1, 3);
                same("music " + a + " " + b, x.music(a, b), y.music(a, b));
                break;
            case "judge":
                write(row());
                same("judge", x.judge(), y.judge());
                break;
            case "dance":
                write(row());
                same("dance", x.dance(), y.dance());
                break;
            case "home": same("home", x.home(), y.home()); break;
            case "where":
                a = about(0, last);
                b = about(0, 1);
                same("where " + a + " " + b, x.where(a, b), y.where(a, b));
                break;
            case "length":
                write(row());
                same("length", x.length(), y.length());
                break;
            case "sign":
                a = about(0, 5);
                same("sign " + a, x.sign(a), y.sign(a));
                break;
            case "want":
                a = about(0, last);
                b = about(-1, last);
                same("want " + a + " " + b, x.want(a, b), y.want(a, b));
                break;
            case "fewest":
                a = draw(3) == 0 ? -1 : about(-1, 5);
                same("fewest " + a, x.fewest(a), y.fewest(a));
                break;
            case "standings": same("standings", x.standings(), y.standings()); break;
            case "canBe":
                write(draw(8) == 0 ? row() : shuffled('a'));
                same("canBe", x.canBe(), y.canBe());
                break;
            case "sure":
                a = about(0, last);
                same("sure " + a, x.sure(a), y.sure(a));
                break;
            case "caller":
                a = about(0, 1);
                b = about(0, 63) & (draw(2) == 0 ? -1 : draw(64));
                same("caller " + a + " " + b, x.caller(a, b), y.caller(a, b));
                break;
            case "forced":
                a = about(0, last);
                b = about(0, last);
                same("forced " + a + " " + b, x.forced(a, b), y.forced(a, b));
                break;
            case "seen":
                a = about(0, 12);
                b = about(0, last);
                c = about(0, last);
                same("seen " + a + " " + b + " " + c, x.seen(a, b, c), y.seen(a, b, c));
                break;
            case "forget": same("forget", x.forget(), y.forget()); break;
            case "rows":
                a = about(0, 12);
                same("rows " + a, x.rows(a), y.rows(a));
                break;
            case "came":
                a = about(0, 12);
                b = about(0, Math.max(0, Math.min(a, 12) - 1));
                c = about(0, 1);
                same("came " + a + " " + b + " " + c, x.came(a, b, c), y.came(a, b, c));
                break;
            case "wish":
                a = about(0, last);
                b = about(0, last);
                c = about(1, 99);
                same("wish " + a + " " + b + " " + c, x.wish(a, b, c), y.wish(a, b, c));
                break;
            case "drop": same("drop", x.drop(), y.drop()); break;
            case "served":
                a = draw(12) == 0 ? about(0, 6) : about(0, 4);
                b = about(-1, Math.max(0, Math.min(a, 6)));
                same("served " + a + " " + b, x.served(a, b), y.served(a, b));
                break;
            case "night":
                a = about(0, 9999);
                b = draw(2) == 0 ? about(0, 99) : about(0, 5);
                c = about(0, last);
                d = about(0, 1);
                same("night " + a + " " + b + " " + c + " " + d, x.night(a, b, c, d), y.night(a, b, c, d));
                break;
            case "image":
                a = about(0, 1);
                same("image " + a, x.image(a), y.image(a));
                break;
            case "restore":
                a = about(0, 1);
                same("restore " + a, x.restore(a), y.restore(a));
                break;
            default:
                a = about(0, 60);
                same("told " + a, x.told(a), y.told(a));
        }
    }

    /** Sights and wants taken from a row that was danced: drawn ones hardly ever fit together. */
    private void truthful(int sights, int wants) {
        open();
        int n = y.told(1);
        int[] behinds = new int[sights];
        for (int i = 0; i < sights; i++) {
            behinds[i] = draw(13);
        }
        int[][] facts = new int[sights][];
        for (int behind = 0; behind <= 12; behind++) {
            for (int i = 0; i < sights; i++) {
                if (behinds[i] == behind) {
                    int good = draw(n);
                    facts[i] = new int[] {behind, good, y.where(good, 0)};
                }
            }
            write(String.valueOf((char) ('A' + draw(6))));
            same("dance", x.dance(), y.dance());
        }
        int[] places = new int[n];
        for (int k = 0; k < n; k++) {
            places[k] = y.where(k, 0);
        }
        same("home", x.home(), y.home());
        for (int k = 0; k < wants; k++) {
            same("want", x.want(k, places[k]), y.want(k, places[k]));
        }
        int figures = y.fewest(-1);
        same("fewest", x.fewest(-1), figures);
        for (int i = 0; i <= figures; i++) {
            same("fewest " + i, x.fewest(i), y.fewest(i));
        }
        for (int[] fact : facts) {
            same("seen", x.seen(fact[0], fact[1], fact[2]), y.seen(fact[0], fact[1], fact[2]));
        }
        for (int m = 12; m >= 9; m -= 3) {
            same("rows", x.rows(m), y.rows(m));
            for (int i = 0; i < m; i += 1 + draw(4)) {
                same("came first", x.came(m, i, 0), y.came(m, i, 0));
                same("came", x.came(m, i, 1), y.came(m, i, 1));
            }
        }
    }

    public static void main(String[] args) {
        for (int run = 0; run < SMALL_RUNS + WIDE_RUNS; run++) {
            new AgainstModelTest(run, run >= SMALL_RUNS).runOfDrawnCalls();
        }
        for (int run = 0; run < TRUTHFUL_RUNS + WIDE_TRUTHFUL_RUNS; run++) {
            new AgainstModelTest(-1 - run, run >= TRUTHFUL_RUNS).truthful(run % 7, run % 4);
        }
        if (mostUsed > MOST_CALLS) {
            wrong++;
            System.out.println("an object was used for " + mostUsed + " calls");
        }
        System.out.println("AgainstModelTest: " + asked + " answers, " + wrong + " wrong");
        if (wrong != 0) {
            System.exit(1);
        }
    }
}
