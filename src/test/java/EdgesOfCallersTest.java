/** The edges of promises 21 to 26: callers, what can be forced, sights, and how it came. */
public final class EdgesOfCallersTest extends Edges {

    // ---- promise 21

    private static void callersAndTheirFigures() {
        for (int c = 0; c < 2; c++) {
            RoundDance x = new RoundDance();
            String edge = "21: CALLER " + c;
            due(edge + ", all at first", 63, x.caller(c, 0));
            due(edge + ", none", 0, x.told(20 + c));
            due(edge + ", none were", 0, x.caller(c, 63));
            due(edge + ", all were", 63, x.caller(c, 32));
            due(edge + ", the last alone was", 32, x.caller(c, 1));
            due(edge + ", the first alone", 1, x.told(20 + c));
            due(edge + ", the other one has all", 63, x.told(21 - c));
        }
    }

    private static void callerRefused() {
        int[] unknown = {LEAST, -1, 2, 3, MOST};
        int[] outside = {LEAST, -1, 64, 127, MOST};
        for (int c : unknown) {
            refused("21: CALLER " + c, UNKNOWN, x -> x.caller(c, 0));
            refused("21: CALLER " + c + " ahead of OUTSIDE 64", UNKNOWN, x -> x.caller(c, 64));
            refused("21: CALLER " + c + " ahead of OUTSIDE -1", UNKNOWN, x -> x.caller(c, -1));
        }
        for (int figures : outside) {
            refused("21: FIGURES " + figures + " of CALLER 0", OUTSIDE, x -> x.caller(0, figures));
            refused("21: FIGURES " + figures + " of CALLER 1", OUTSIDE, x -> x.caller(1, figures));
        }
    }

    // ---- promise 22

    private static RoundDance called(int first, int second) {
        RoundDance x = market(4, "1230", "3012");
        x.caller(0, first);
        x.caller(1, second);
        return x;
    }

    private static void forcedAtOnce() {
        for (int n = 3; n <= 8; n++) {
            for (int k = 0; k < n; k++) {
                RoundDance x = market(n, round(n));
                String edge = "22: of " + n + ", GOOD " + k;
                due(edge + " is there", 0, x.forced(k, k));
                due(edge + " is brought to the next", 1, x.forced(k, (k + 1) % n));
                x.set(2, ALL_FIGURES);
                due(edge + " is there, none MAY be", 0, x.forced(k, k));
                due(edge + " stays, none MAY be", NONE, x.forced(k, (k + 1) % n));
                x.set(2, 0);
                x.set(0, (1 << n) - 1);
                due(edge + " is there, all LAME", 0, x.forced(k, k));
                due(edge + " stays, all LAME", NONE, x.forced(k, (k + 1) % n));
            }
        }
    }

    private static void forcedByCallersWithoutFigures() {
        due("22: CALLER 0 has none: nothing, then A", 2, called(0, 1).forced(0, 1));
        due("22: CALLER 0 has none: each second call", 6, called(0, 1).forced(0, 3));
        due("22: CALLER 0 has none: the other one has two", NONE, called(0, 3).forced(0, 1));
        due("22: CALLER 0 has none: it is there", 0, called(0, 3).forced(0, 0));
        due("22: CALLER 1 has none: A", 1, called(1, 0).forced(0, 1));
        due("22: CALLER 1 has none: A, nothing, A", 3, called(1, 0).forced(0, 2));
        due("22: CALLER 1 has none: the most of four", 5, called(1, 0).forced(0, 3));
        due("22: none has one", NONE, called(0, 0).forced(0, 1));
        due("22: none has one: it is there", 0, called(0, 0).forced(0, 0));
    }

    private static void forcedByFiguresThatMayNotBe() {
        RoundDance x = called(2, 1);
        x.set(2, 2);
        due("22: LENT takes all of CALLER 0: nothing, then A", 2, x.forced(0, 1));
        x.set(2, 1);
        due("22: LENT takes all of CALLER 1: B", 1, x.forced(0, 3));
        due("22: LENT takes all of CALLER 1: B, nothing, B", 3, x.forced(0, 2));
        x.set(2, 0);
        x.music(1, 2);
        due("22: B has the other MUSIC: nothing, then A", 2, x.forced(0, 1));
        x.music(1, 3);
        x.music(0, 2);
        due("22: A has the other MUSIC: B, nothing, B", 3, x.forced(0, 2));
        x.set(2, 3);
        due("22: neither has one that MAY be", NONE, x.forced(0, 3));
    }

    private static void forcedInTheWorstCase() {
        due("22: the other one can undo it", NONE, called(3, 3).forced(0, 2));
        due("22: the other one must go on", 2, called(1, 1).forced(0, 2));
        due("22: the other one must go back", NONE, called(1, 2).forced(0, 2));
        due("22: it is there behind the other one's", 2, called(2, 2).forced(0, 2));
        due("22: the first of two ways", 1, called(3, 1).forced(0, 3));
        due("22: what is the farther first", 3, called(1, 1).forced(0, 3));
    }

    private static void forcedLongest() {
        RoundDance x = market(8, round(8));
        x.caller(0, 1);
        x.caller(1, 0);
        due("22: round eight, CALLER 1 has none", 13, x.forced(0, 7));
        x.caller(0, 0);
        x.caller(1, 1);
        due("22: round eight, CALLER 0 has none", 14, x.forced(0, 7));
        x.caller(0, 1);
        due("22: round eight, both", 7, x.forced(0, 7));
        danceRow(x, "A");
        due("22: from where it is", 6, x.forced(0, 7));
        due("22: from where it is, the last GOOD", 7, x.forced(7, 7));
        x.set(0, 128);
        due("22: at a LAME one", NONE, x.forced(0, 7));
        due("22: past a LAME one", 6, x.forced(0, 0));
    }

    private static void forcedRefused() {
        int[] unknown = {LEAST, -1, 5, 8, 32, MOST};
        for (int k : unknown) {
            refused("22: GOOD " + k, UNKNOWN, x -> x.forced(k, 0));
            refused("22: PLACE " + k, UNKNOWN, x -> x.forced(0, k));
            refused("22: GOOD and PLACE " + k, UNKNOWN, x -> x.forced(k, k));
        }
        for (int n = 3; n <= 8; n++) {
            int places = n;
            refused("22: GOOD " + n + " of " + n, UNKNOWN, () -> market(places, round(places)),
                    x -> x.forced(places, 0));
            refused("22: PLACE " + n + " of " + n, UNKNOWN, () -> market(places, round(places)),
                    x -> x.forced(0, places));
        }
        unchangedBy("22: asking changes nothing", () -> busy("DAD"), x -> x.forced(0, 2));
        due("22: NONE as PLACE 4 is LAME", NONE, busy("DAD").forced(0, 4));
        unchangedBy("22: NONE changes nothing", () -> busy("DAD"), x -> x.forced(0, 4));
    }

    // ---- promise 23

    private static void seenFirstAndLast() {
        for (int n = 3; n <= 8; n++) {
            RoundDance x = market(n);
            String edge = "23: of " + n;
            due(edge + ", behind 0, the first", 1, x.seen(0, 0, 0));
            due(edge + ", behind 12, the last", 2, x.seen(12, n - 1, n - 1));
            due(edge + ", the same once more", 3, x.seen(12, n - 1, n - 1));
            due(edge + ", one against it", 4, x.seen(12, n - 1, 0));
            due(edge + ", the fifth", 5, x.seen(1, 0, n - 1));
            due(edge + ", the sixth", 6, x.seen(1, n - 1, 0));
            due(edge + ", told(5)", 6, x.told(5));
            due(edge + ", the seventh", FULL, x.seen(0, 0, 0));
        }
    }

    private static void seenRefused() {
        int[] unknown = {LEAST, -1, 5, 8, MOST};
        int[] outside = {LEAST, -1, 13, 64, MOST};
        for (int k : unknown) {
            refused("23: GOOD " + k, UNKNOWN, x -> x.seen(0, k, 0));
            refused("23: PLACE " + k, UNKNOWN, x -> x.seen(12, 0, k));
            refused("23: GOOD and PLACE " + k, UNKNOWN, x -> x.seen(1, k, k));
            for (int behind : outside) {
                refused("23: GOOD " + k + " ahead of OUTSIDE " + behind, UNKNOWN, x -> x.seen(behind, k, 0));
                refused("23: PLACE " + k + " ahead of OUTSIDE " + behind, UNKNOWN, x -> x.seen(behind, 0, k));
                refused("23: " + k + " ahead of OUTSIDE " + behind + " and FULL", UNKNOWN, () -> busy("", 6),
                        x -> x.seen(behind, k, 0));
            }
            refused("23: GOOD " + k + " ahead of FULL", UNKNOWN, () -> busy("", 6), x -> x.seen(0, k, 0));
            refused("23: PLACE " + k + " ahead of FULL", UNKNOWN, () -> busy("", 6), x -> x.seen(0, 0, k));
        }
        for (int behind : outside) {
            refused("23: behind " + behind, OUTSIDE, x -> x.seen(behind, 0, 0));
            refused("23: behind " + behind + " of the last", OUTSIDE, x -> x.seen(behind, 4, 4));
            refused("23: behind " + behind + " ahead of FULL", OUTSIDE, () -> busy("", 6),
                    x -> x.seen(behind, 0, 0));
        }
    }

    private static void seenFull() {
        for (int behind = 0; behind <= 12; behind++) {
            int many = behind;
            refused("23: FULL, behind " + behind, FULL, () -> busy("DAD", 6), x -> x.seen(many, 4, 0));
        }
        refused("23: FULL, one that is there", FULL, () -> busy("DAD", 6), x -> x.seen(0, 0, 0));
        due("23: five are not FULL", 6, busy("DAD", 5).seen(0, 0, 0));
        RoundDance x = busy("DAD", 6);
        x.forget();
        due("23: not FULL any more", 1, x.seen(0, 0, 0));
        due("23: WISHES are counted by themselves", 6, x.told(6));
    }

    // ---- promise 24

    private static void forgetNoneAndAll() {
        for (int sights = 0; sights <= 6; sights++) {
            RoundDance x = busy("DAD", sights);
            due("24: there were " + sights, sights, x.forget());
            due("24: told(5) behind " + sights, 0, x.told(5));
            due("24: twice behind " + sights, 0, x.forget());
            due("24: WISHES stay, " + sights, sights, x.told(6));
            for (int many = 1; many <= 6; many++) {
                due("24: behind " + sights + " there is room for " + many, many, x.seen(0, 0, 0));
            }
            due("24: behind " + sights + " for no seventh", FULL, x.seen(0, 0, 0));
        }
        RoundDance x = market(3);
        x.seen(0, 0, 1);
        due("24: a SIGHT that can not be", 0, x.rows(12));
        x.forget();
        due("24: forgotten", 2176782336L, x.rows(12));
        unchangedBy("24: none to forget", () -> busy("DAD", 0), y -> y.forget());
    }

    /** What was asked ahead of forgetting must not be answered behind it, even if a part is said again. */
    private static void forgetAndSayAgain() {
        RoundDance x = oneSight(2, 0, 2);
        x.seen(1, 0, 3);
        due("24: two SIGHTS: BB alone", 1, x.rows(2));
        due("24: two SIGHTS: the first", 'B', x.came(2, 0, 0));
        x.forget();
        due("24: none of them: all", 4, x.rows(2));
        x.seen(2, 0, 2);
        due("24: one of them again: AA, BB", 2, x.rows(2));
        due("24: one of them again: the first", 'A', x.came(2, 0, 0));
        RoundDance y = oneSight(2, 0, 2);
        y.seen(1, 0, 3);
        due("24: two SIGHTS once more", 1, y.rows(2));
        y.forget();
        y.seen(2, 0, 2);
        due("24: one of them at once again: AA, BB", 2, y.rows(2));
        for (int again = 0; again <= 6; again++) {
            RoundDance z = sights(6);
            due("24: six SIGHTS: each FIGURE is told", 1, z.rows(6));
            z.forget();
            sayFirst(z, again);
            due("24: of six the first " + again + " again", 1L << 6 - again, z.rows(6));
        }
    }

    /** Sights behind 1, 2 and so on of a row of A alone: each tells one figure. */
    private static RoundDance sights(int many) {
        RoundDance x = market(4, "1230", "3012");
        x.set(2, 60);
        sayFirst(x, many);
        return x;
    }

    private static void sayFirst(RoundDance x, int many) {
        for (int i = 1; i <= many; i++) {
            x.seen(i, 0, i % 4);
        }
    }

    // ---- promise 25

    private static void rowsByNumbers() {
        long[] ofSix = {1, 6, 36, 216, 1296, 7776, 46656, 279936, 1679616, 10077696, 60466176, 362797056, 2176782336L};
        for (int m = 0; m <= 12; m++) {
            due("25: all of " + m, ofSix[m], new RoundDance().rows(m));
            RoundDance x = market(4, "1230");
            x.set(2, 62);
            due("25: A alone, " + m, 1, x.rows(m));
            x.set(2, 60);
            due("25: two, " + m, 1L << m, x.rows(m));
            x.set(2, ALL_FIGURES);
            due("25: none MAY be, " + m, m == 0 ? 1 : 0, x.rows(m));
            x.set(2, 0);
            x.set(0, 15);
            due("25: all LAME, " + m, ofSix[m], x.rows(m));
        }
    }

    private static RoundDance oneSight(int behind, int good, int place) {
        RoundDance x = market(4, "1230", "3012");
        x.set(2, 60);
        x.seen(behind, good, place);
        return x;
    }

    private static void rowsBySights() {
        for (int m = 0; m <= 12; m++) {
            due("25: a SIGHT behind just " + m + " counts", 0, oneSight(m, 0, m % 2 == 0 ? 1 : 0).rows(m));
            if (m > 0) {
                due("25: a SIGHT behind " + m + " counts not for less", 1L << m - 1, oneSight(m, 0, 1).rows(m - 1));
                due("25: a SIGHT behind 0 counts for " + m, 0, oneSight(0, 0, 1).rows(m));
                due("25: a SIGHT behind 1 counts for " + m, 1L << m - 1, oneSight(1, 0, 1).rows(m));
            }
            due("25: GOOD k is at PLACE k, " + m, 1L << m, oneSight(0, 3, 3).rows(m));
        }
        due("25: behind 12, half of all", 2048, oneSight(12, 0, 0).rows(12));
        due("25: behind 12, the last GOOD at the last PLACE", 2048, oneSight(12, 3, 3).rows(12));
    }

    private static void rowsBySixSights() {
        RoundDance x = market(8, round(8));
        x.set(2, 60);
        for (int k = 0; k < 6; k++) {
            x.seen(2 * k + 2, k, (k + k + 1) % 8);
        }
        due("25: six SIGHTS: one A of each two", 64, x.rows(12));
        due("25: five of them count, the last FIGURE is free", 64, x.rows(11));
        due("25: the first alone counts", 4, x.rows(3));
        RoundDance y = market(8, round(8));
        for (int k = 0; k < 6; k++) {
            y.seen(12, k, (k + 4) % 8);
        }
        y.set(2, 62);
        due("25: six SIGHTS behind 12 A", 1, y.rows(12));
        y.set(2, 60);
        due("25: six SIGHTS behind 12, four of them A or all", 495 + 1, y.rows(12));
        RoundDance z = oneSight(12, 0, 0);
        z.seen(12, 0, 2);
        due("25: two SIGHTS against each other", 0, z.rows(12));
        due("25: two SIGHTS against each other, for less", 2048, z.rows(11));
        RoundDance twice = oneSight(12, 0, 0);
        twice.seen(12, 0, 0);
        due("25: the same SIGHT twice", 2048, twice.rows(12));
        RoundDance both = oneSight(2, 0, 0);
        both.seen(2, 1, 0);
        due("25: two GOODS at one PLACE", 0, both.rows(2));
    }

    private static void rowsFromHome() {
        RoundDance x = oneSight(0, 0, 0);
        danceRow(x, "A");
        due("25: from GOOD k at PLACE k, not from where they are", 1, x.rows(0));
        RoundDance y = oneSight(0, 0, 1);
        danceRow(y, "A");
        due("25: where they are is no SIGHT", 0, y.rows(0));
        RoundDance z = oneSight(1, 0, 2);
        z.set(0, 2);
        due("25: past a LAME one", 1, z.rows(1));
    }

    private static void rowsRefused() {
        int[] outside = {LEAST, -2, -1, 13, 64, MOST};
        for (int m : outside) {
            refused("25: rows(" + m + ")", OUTSIDE, x -> x.rows(m));
        }
        unchangedBy("25: asking changes nothing", () -> busy("DAD"), x -> x.rows(12));
    }

    // ---- promise 26

    private static void cameFirstAndLast() {
        for (int m = 1; m <= 12; m++) {
            String edge = "26: of " + m;
            for (int i = 0; i < m; i += Math.max(m - 1, 1)) {
                due(edge + ", FIGURE " + i + ", no SIGHT", 'A', new RoundDance().came(m, i, 0));
                due(edge + ", FIGURES " + i + ", no SIGHT", ALL_FIGURES, new RoundDance().came(m, i, 1));
                RoundDance x = new RoundDance();
                x.set(2, 31);
                due(edge + ", FIGURE " + i + ", F alone MAY be", 'F', x.came(m, i, 0));
                due(edge + ", FIGURES " + i + ", F alone MAY be", 32, x.came(m, i, 1));
            }
            RoundDance last = market(3, "012", "120");
            last.set(2, 60);
            last.seen(m, 0, 1);
            last.seen(m - 1, 0, 0);
            due(edge + ", the last FIGURE", 'B', last.came(m, m - 1, 0));
            due(edge + ", the last FIGURES", 2, last.came(m, m - 1, 1));
            if (m > 1) {
                due(edge + ", the first FIGURE", 'A', last.came(m, 0, 0));
            }
        }
    }

    private static void cameTheFirstByFigures() {
        RoundDance x = market(3, "012", "120", "201");
        x.set(2, 56);
        x.seen(2, 0, 0);
        due("26: AA, BC or CB: the first", 'A', x.came(2, 0, 0));
        due("26: AA, BC or CB: the second", 'A', x.came(2, 1, 0));
        due("26: AA, BC or CB: all first", 7, x.came(2, 0, 1));
        due("26: AA, BC or CB: all second", 7, x.came(2, 1, 1));
        x.seen(1, 0, 2);
        due("26: CB alone: the first", 'C', x.came(2, 0, 0));
        due("26: CB alone: the second", 'B', x.came(2, 1, 0));
        due("26: CB alone: all first", 4, x.came(2, 0, 1));
        due("26: CB alone: all second", 2, x.came(2, 1, 1));
        due("26: of three the third is free: the first", 'A', x.came(3, 2, 0));
        due("26: of three the third is free: all", 7, x.came(3, 2, 1));
        due("26: of one, behind 2 does not count: C", 'C', x.came(1, 0, 0));
    }

    private static void cameNone() {
        for (int m = 1; m <= 12; m++) {
            for (int what = 0; what <= 1; what++) {
                RoundDance none = new RoundDance();
                none.set(2, ALL_FIGURES);
                due("26: none MAY be, of " + m + ", the first", NONE, none.came(m, 0, what));
                due("26: none MAY be, of " + m + ", the last", NONE, none.came(m, m - 1, what));
                RoundDance x = oneSight(0, 0, 1);
                due("26: no ROW fits, of " + m + ", the first", NONE, x.came(m, 0, what));
                due("26: no ROW fits, of " + m + ", the last", NONE, x.came(m, m - 1, what));
                RoundDance y = oneSight(m, 0, m % 2 == 0 ? 1 : 0);
                due("26: the last does not fit, of " + m, NONE, y.came(m, 0, what));
                if (m > 1) {
                    due("26: the one behind it does not count, of " + m, what == 0 ? 'A' : 3,
                            y.came(m - 1, 0, what));
                }
            }
        }
    }

    private static void cameSixSights() {
        RoundDance x = market(8, round(8));
        x.set(2, 60);
        for (int i = 0; i < 6; i++) {
            x.seen(2 * i + 1, 7, i);
        }
        for (int i = 0; i < 11; i++) {
            due("26: six SIGHTS, FIGURE " + i, i == 0 || i % 2 == 1 ? 'A' : 'B', x.came(11, i, 0));
            due("26: six SIGHTS, FIGURES " + i, i == 0 ? 1 : 3, x.came(11, i, 1));
        }
        due("26: six SIGHTS, the last is free", 'A', x.came(12, 11, 0));
        due("26: six SIGHTS, the last is free: all", 3, x.came(12, 11, 1));
    }

    private static void cameRefused() {
        int[] noM = {LEAST, -1, 0, 13, MOST};
        int[] noWhat = {LEAST, -1, 2, MOST};
        for (int m : noM) {
            refused("26: m " + m, OUTSIDE, x -> x.came(m, 0, 0));
            refused("26: m " + m + " and i", OUTSIDE, x -> x.came(m, m, 0));
            refused("26: m " + m + " and what", OUTSIDE, x -> x.came(m, 0, 2));
            refused("26: m " + m + ", i and what", OUTSIDE, x -> x.came(m, -1, -1));
        }
        for (int m = 1; m <= 12; m++) {
            int many = m;
            for (int i : new int[] {LEAST, -1, m, m + 1, MOST}) {
                refused("26: i " + i + " of " + m, OUTSIDE, () -> busy("DAD"), x -> x.came(many, i, 0));
                refused("26: i " + i + " of " + m + " and what", OUTSIDE, () -> busy("DAD"), x -> x.came(many, i, 2));
                due("26: i " + i + " of " + m + " ahead of NONE", OUTSIDE, oneSight(0, 0, 1).came(m, i, 0));
            }
        }
        for (int what : noWhat) {
            refused("26: what " + what, OUTSIDE, x -> x.came(12, 11, what));
            due("26: what " + what + " ahead of NONE", OUTSIDE, oneSight(0, 0, 1).came(1, 0, what));
        }
        unchangedBy("26: asking for the first changes nothing", () -> busy("DAD"), x -> x.came(12, 0, 0));
        unchangedBy("26: asking for all changes nothing", () -> busy("DAD"), x -> x.came(12, 11, 1));
        Maker none = () -> {
            RoundDance x = busy("DAD");
            x.seen(12, 0, 4);
            return x;
        };
        due("26: NONE as PLACE 4 is LAME", NONE, none.make().came(12, 0, 0));
        unchangedBy("26: NONE changes nothing", none, x -> x.came(12, 0, 0));
        unchangedBy("26: NONE of FIGURES changes nothing", none, x -> x.came(12, 11, 1));
    }

    public static void main(String[] args) {
        callersAndTheirFigures();
        callerRefused();
        forcedAtOnce();
        forcedByCallersWithoutFigures();
        forcedByFiguresThatMayNotBe();
        forcedInTheWorstCase();
        forcedLongest();
        forcedRefused();
        seenFirstAndLast();
        seenRefused();
        seenFull();
        forgetNoneAndAll();
        forgetAndSayAgain();
        rowsByNumbers();
        rowsBySights();
        rowsBySixSights();
        rowsFromHome();
        rowsRefused();
        cameFirstAndLast();
        cameTheFirstByFigures();
        cameNone();
        cameSixSights();
        cameRefused();
        end("EdgesOfCallersTest");
    }
}
