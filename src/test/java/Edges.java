import java.util.ArrayList;
import java.util.List;

/** What the tests of the edges share: markets, named cases, and a whole look at what a call could have changed. */
abstract class Edges {
    static final int UNKNOWN = -1, OUTSIDE = -2, STATE = -3, FULL = -4, NO = -5, NONE = -6;
    static final int LEAST = Integer.MIN_VALUE, MOST = Integer.MAX_VALUE;
    static final int ALL_FIGURES = 63;
    /** Pads for refused calls: nothing, a figure, a row, a standing, and as many signs as there may be. */
    static final String[] PADS = {"", "43210", "DAD", "edcba", "AAAAAAAAAAAAAAAAAAAAAAAAAAAAAA"};

    private static int cases = 0;
    private static int wrong = 0;
    private static boolean busyKeeps = true;

    interface Call {
        long on(RoundDance x);
    }

    interface Maker {
        RoundDance make();
    }

    static void due(String edge, long want, long got) {
        cases++;
        if (got != want) {
            wrong++;
            System.out.println(edge + ": answered " + got + ", due is " + want);
        }
    }

    static void end(String name) {
        System.out.println(name + ": " + cases + " cases, " + wrong + " wrong");
        if (wrong != 0) {
            System.exit(1);
        }
    }

    // ---- texts of n signs

    static String upFrom(char first, int n) {
        StringBuilder text = new StringBuilder();
        for (int i = 0; i < n; i++) {
            text.append((char) (first + i));
        }
        return text.toString();
    }

    static String downTo(char first, int n) {
        return new StringBuilder(upFrom(first, n)).reverse().toString();
    }

    /** Each place to itself. */
    static String straight(int n) {
        return upFrom('0', n);
    }

    /** Each place to the next, the last one to the first. */
    static String round(int n) {
        return upFrom('1', n - 1) + "0";
    }

    /** The first two exchanged. */
    static String exchange(int n) {
        return "10" + upFrom('2', n - 2);
    }

    static String times(String sign, int count) {
        StringBuilder text = new StringBuilder();
        for (int i = 0; i < count; i++) {
            text.append(sign);
        }
        return text.toString();
    }

    // ---- markets

    static RoundDance write(RoundDance x, String text) {
        x.wipe();
        for (int i = 0; i < text.length(); i++) {
            x.say(text.charAt(i));
        }
        return x;
    }

    static void give(RoundDance x, int figure, String text) {
        write(x, text).figure(figure);
    }

    static void danceRow(RoundDance x, String row) {
        write(x, row).dance();
    }

    static RoundDance market(int n, String... figures) {
        RoundDance x = new RoundDance();
        x.places(n);
        for (int f = 0; f < figures.length; f++) {
            give(x, f, figures[f]);
        }
        return x;
    }

    /** The sights are those of a row of A alone in a busy market, so that some rows fit all of them. */
    private static void seeAndWish(RoundDance x, int notes) {
        for (int i = 0; i < notes; i++) {
            x.seen(2 * i, i % 2, i % 2 == 0 ? 0 : 3);
            x.wish(i % 5, (i + 2) % 5, 1 + 17 * i % 99);
        }
    }

    /** Five places, where nothing is as at first; both images are kept (or none); this text stands on the pad. */
    static RoundDance busy(String pad, int notes) {
        RoundDance x = new RoundDance();
        keep(x, 1);
        x.places(5);
        String[] figures = {"12340", "10234", "01324", "43210", "20134", "01243"};
        for (int f = 0; f < figures.length; f++) {
            give(x, f, figures[f]);
        }
        keep(x, 0);
        danceRow(x, "AB");
        x.set(0, 16);
        x.music(1, 1);
        x.music(2, 2);
        x.set(1, 2);
        x.set(2, 32);
        x.caller(0, 13);
        x.caller(1, 41);
        x.want(0, 3);
        x.want(2, 0);
        seeAndWish(x, notes);
        return write(x, pad);
    }

    static RoundDance busy(String pad) {
        return busy(pad, 3);
    }

    private static void keep(RoundDance x, int image) {
        if (busyKeeps) {
            x.image(image);
        }
    }

    // ---- refusals, and answers that change nothing

    /** The call is refused so, and all is as in a market in which it was not made. */
    static void refused(String edge, long want, Maker maker, Call call) {
        due(edge, want, call.on(maker.make()));
        unchangedBy(edge, maker, call);
    }

    static void refused(String edge, long want, Call call) {
        for (String pad : PADS) {
            refused(edge + ", on the PAD '" + pad + "'", want, () -> busy(pad), call);
        }
    }

    static void unchangedBy(String edge, Maker maker, Call call) {
        Maker asked = () -> {
            RoundDance x = maker.make();
            call.on(x);
            return x;
        };
        unchanged(edge, maker, asked);
        busyKeeps = false;
        unchanged(edge + ", no IMAGE kept", maker, asked);
        busyKeeps = true;
    }

    /** Looked at more than once, each time anew: a look uses up the pad, and restoring ends what there was. */
    static void unchanged(String edge, Maker spared, Maker asked) {
        same(edge, lookAtNow(spared.make()), lookAtNow(asked.make()));
        same(edge + ", the GOODS", lookAtGoods(spared.make()), lookAtGoods(asked.make()));
        same(edge + ", the IMAGES", lookAtImages(spared.make(), 0, 1), lookAtImages(asked.make(), 0, 1));
        same(edge + ", the IMAGES", lookAtImages(spared.make(), 1, 0), lookAtImages(asked.make(), 1, 0));
    }

    private static void same(String edge, List<String> due, List<String> got) {
        cases++;
        for (int i = 0; i < due.size() || i < got.size(); i++) {
            String one = i < due.size() ? due.get(i) : "nothing";
            String other = i < got.size() ? got.get(i) : "nothing";
            if (!one.equals(other)) {
                wrong++;
                System.out.println(edge + ": changed " + one + " to " + other);
                return;
            }
        }
    }

    // A look makes no call that is refused but that of an image that was not kept: what a refused call of the look
    // itself would change could not be told from what the call did that is looked at.

    private static List<String> lookAtNow(RoundDance x) {
        List<String> look = new ArrayList<>();
        lookAtHeld(x, look);
        lookAtAnswers(x, look);
        lookAtPad(x, look);
        return look;
    }

    /** By where alone: a told that moved them would hide it from the look at all. */
    private static List<String> lookAtGoods(RoundDance x) {
        List<String> look = new ArrayList<>();
        for (int k = 0; k < 3; k++) {
            look.add("where(" + k + ", 0) = " + x.where(k, 0));
            look.add("where(" + k + ", 1) = " + x.where(k, 1));
        }
        return look;
    }

    private static List<String> lookAtImages(RoundDance x, int first, int second) {
        List<String> look = new ArrayList<>();
        for (int n : new int[] {first, second}) {
            look.add("restore(" + n + ") = " + x.restore(n));
            lookAtHeld(x, look);
        }
        return look;
    }

    private static void lookAtHeld(RoundDance x, List<String> look) {
        int[] whats = {0, 1, 2, 3, 4, 5, 6, 10, 11, 12, 13, 14, 15, 20, 21};
        for (int what : whats) {
            look.add("told(" + what + ") = " + x.told(what));
        }
        int n = x.told(1);
        for (int k = 0; k < n; k++) {
            look.add("where(" + k + ", 0) = " + x.where(k, 0));
            look.add("told(4" + k + ") = " + x.told(40 + k));
        }
        for (int f = 0; f < 6; f++) {
            lookAtFigure(x, f, look);
        }
        for (int m = 0; m <= 12; m++) {
            look.add("rows(" + m + ") = " + x.rows(m));
        }
        look.add("served(0, -1) = " + x.served(0, -1));
        look.add("served(3, -1) = " + x.served(3, -1));
    }

    private static void lookAtFigure(RoundDance x, int figure, List<String> look) {
        for (int p = 0; p < x.told(1); p++) {
            look.add("goes(" + figure + ", " + p + ", 0) = " + x.goes(figure, p, 0));
        }
    }

    private static void lookAtAnswers(RoundDance x, List<String> look) {
        look.add("standings() = " + x.standings());
        look.add("fewest(-1) = " + x.fewest(-1));
        look.add("fewest(0) = " + x.fewest(0));
        look.add("served(3, 0) = " + x.served(3, 0));
        look.add("served(3, 2) = " + x.served(3, 2));
        for (int k = 0; k < x.told(1); k++) {
            look.add("sure(" + k + ") = " + x.sure(k));
            look.add("forced(" + k + ", 2) = " + x.forced(k, 2));
        }
        look.add("came(3, 1, 0) = " + x.came(3, 1, 0));
        look.add("came(3, 1, 1) = " + x.came(3, 1, 1));
        look.add("night(77, 9, 1, 0) = " + x.night(77, 9, 1, 0));
    }

    /** What stands on the pad shows in its faults, and in what it does: by that it is used up. */
    private static void lookAtPad(RoundDance x, List<String> look) {
        for (int how = 0; how < 3; how++) {
            look.add("fault(" + how + ") = " + x.fault(how));
        }
        if (x.fault(2) == NONE) {
            look.add("canBe() = " + x.canBe());
        }
        if (x.fault(1) == NONE) {
            look.add("length() = " + x.length());
            look.add("judge() = " + x.judge());
            look.add("dance() = " + x.dance());
            look.add("where(0, 0) = " + x.where(0, 0));
        }
        if (x.fault(0) == NONE) {
            look.add("figure(0) = " + x.figure(0));
            lookAtFigure(x, 0, look);
        }
        look.add("signs = " + x.told(0));
    }
}
