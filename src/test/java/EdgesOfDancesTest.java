/** The edges of promises 10 to 15: rows judged and danced, home, where goods are, lengths and signs. */
public final class EdgesOfDancesTest extends Edges {
    /** Texts that are no rows: signs beside A to F at the first, a middle and the last place, and too many. */
    private static final String[] NO_ROWS = {
        "@", "G", "!", "~", "a", "0", "AGA", "A@A", "AAG", times("A", 19) + "G", times("A", 20) + "A",
        times("A", 20) + "~", times("D", 30), times("A", 29) + "!"};

    // ---- promise 10

    private static RoundDance judging(String row, int lent) {
        RoundDance x = write(market(4), row);
        x.set(2, lent);
        return x;
    }

    private static void judgeEmptyAndFull() {
        due("10: an empty ROW", NONE, judging("", 0).judge());
        due("10: an empty ROW, none MAY be", NONE, judging("", ALL_FIGURES).judge());
        due("10: a ROW of 20 that MAY all be", NONE, judging(times("ABCDE", 4), 32).judge());
        due("10: a ROW of 20, the first MAY not be", 0, judging("A" + times("B", 19), 1).judge());
        due("10: a ROW of 20, the last MAY not be", 19, judging(times("A", 19) + "F", 32).judge());
        due("10: a ROW of 20, none MAY be", 0, judging(times("A", 20), ALL_FIGURES).judge());
        due("10: the first of two", 1, judging("ABCB", 6).judge());
        due("10: one and the same", 2, judging("AABB", 2).judge());
    }

    private static void judgeEachFigure() {
        for (int f = 0; f < 6; f++) {
            String row = "ABCDEF";
            due("10: LENT forbids " + row.charAt(f) + " alone", f, judging(row, 1 << f).judge());
            due("10: LENT forbids all but " + row.charAt(f), f == 0 ? 1 : 0,
                    judging(row, ALL_FIGURES & ~(1 << f)).judge());
            RoundDance x = judging(row, 0);
            x.music(f, 2);
            due("10: " + row.charAt(f) + " has the other MUSIC", f, x.judge());
            x.set(1, 2);
            due("10: " + row.charAt(f) + " has the MUSIC", NONE, x.judge());
            x.music(f, 1);
            due("10: " + row.charAt(f) + " has the other MUSIC now", f, x.judge());
        }
    }

    private static void judgeChangesNothing() {
        for (String pad : PADS) {
            unchangedBy("10: judging changes nothing, '" + pad + "'", () -> busy(pad), x -> x.judge());
        }
    }

    private static void judgeFaulty() {
        for (String row : NO_ROWS) {
            refused("10: '" + row + "'", NO, () -> busy(row), x -> x.judge());
            refused("10: '" + row + "', none MAY be", NO, () -> judging(row, ALL_FIGURES), x -> x.judge());
        }
    }

    // ---- promise 11

    private static RoundDance dancing(String row, int n) {
        return write(market(n, round(n), exchange(n)), row);
    }

    private static void danceEmptyAndFull() {
        due("11: an empty ROW", 0, dancing("", 4).dance());
        RoundDance none = dancing("", 4);
        none.set(2, ALL_FIGURES);
        due("11: an empty ROW, none MAY be", 0, none.dance());
        due("11: one FIGURE", 1, dancing("A", 4).dance());
        due("11: 20 FIGURES", 20, dancing(times("A", 20), 4).dance());
        for (int n = 3; n <= 8; n++) {
            RoundDance x = dancing(times("A", 20), n);
            x.dance();
            due("11: the PAD is empty behind 20", 0, x.told(0));
            for (int k = 0; k < n; k++) {
                due("11: 20 times round " + n + ", GOOD " + k, (k + 20) % n, x.where(k, 0));
            }
        }
        unchangedBy("11: an empty ROW leaves all", () -> busy(""), x -> x.dance());
    }

    private static void danceFromWhereTheyAre() {
        RoundDance x = dancing("B", 3);
        x.dance();
        due("11: behind B, A, which is told by PLACES", 1, write(x, "A").dance());
        int[] places = {2, 1, 0};
        for (int k = 0; k < 3; k++) {
            due("11: B, then A: GOOD " + k, places[k], x.where(k, 0));
        }
        RoundDance y = dancing("BA", 3);
        y.dance();
        for (int k = 0; k < 3; k++) {
            due("11: BA at once: GOOD " + k, places[k], y.where(k, 0));
        }
    }

    private static void danceAllLame() {
        RoundDance x = dancing("AB", 5);
        x.set(0, 31);
        due("11: all LAME, FIGURES are danced", 2, x.dance());
        due("11: all LAME, the PAD is empty", 0, x.told(0));
        due("11: all LAME, none is away", 0, x.home());
        RoundDance y = dancing("A", 5);
        y.set(0, 30);
        y.dance();
        due("11: all but one LAME, none is away", 0, y.home());
        RoundDance z = dancing("A", 5);
        z.set(0, 14);
        z.dance();
        due("11: all but two LAME, both are away", 2, z.home());
    }

    private static RoundDance forbidden(String row, int lent, int music) {
        RoundDance x = dancing(row, 5);
        x.set(2, lent);
        x.music(0, music);
        return x;
    }

    private static void danceRefused() {
        for (String row : NO_ROWS) {
            refused("11: '" + row + "'", NO, () -> busy(row), x -> x.dance());
            refused("11: '" + row + "', none MAY be", NO, () -> forbidden(row, ALL_FIGURES, 3), x -> x.dance());
        }
        String[] rows = {"A", "AB", "BA", "BAB", times("B", 19) + "A", "A" + times("B", 19), times("A", 20)};
        for (String row : rows) {
            refused("11: LENT forbids A of '" + row + "'", NO, () -> forbidden(row, 1, 3), x -> x.dance());
            refused("11: A of '" + row + "' has the other MUSIC", NO, () -> forbidden(row, 0, 2), x -> x.dance());
            refused("11: both for '" + row + "'", NO, () -> forbidden(row, 1, 2), x -> x.dance());
            refused("11: none MAY be, '" + row + "'", NO, () -> forbidden(row, ALL_FIGURES, 3), x -> x.dance());
        }
        due("11: others are forbidden", 2, forbidden("AB", 60, 1).dance());
    }

    // ---- promise 12

    private static void homeNoneAndAll() {
        due("12: none away", 0, market(4).home());
        for (int n = 3; n <= 8; n++) {
            RoundDance x = market(n, round(n), exchange(n), downTo('0', n));
            due("12: none away of " + n, 0, x.home());
            danceRow(x, "A");
            due("12: all away of " + n, n, x.home());
            due("12: none away any more of " + n, 0, x.home());
            for (int k = 0; k < n; k++) {
                due("12: GOOD " + k + " of " + n + " is at home", k, x.where(k, 0));
                due("12: PLACE " + k + " of " + n + " has its own", k, x.where(k, 1));
            }
            danceRow(x, "B");
            due("12: two away of " + n, 2, x.home());
            danceRow(x, "C");
            due("12: one in the middle may stay of " + n, n - n % 2, x.home());
            danceRow(x, times("A", n));
            due("12: round and at home of " + n, 0, x.home());
        }
    }

    private static void homeWhateverIsSet() {
        RoundDance x = market(5, round(5));
        danceRow(x, "A");
        x.set(0, 31);
        x.set(2, ALL_FIGURES);
        x.music(0, 2);
        due("12: all LAME, none MAY be", 5, x.home());
        due("12: all LAME: GOOD 4 is at home", 4, x.where(4, 0));
    }

    private static void homeLeavesTheRest() {
        RoundDance x = busy("AB", 6);
        x.home();
        int[] whats = {0, 1, 2, 3, 4, 5, 6, 11, 12, 20, 21, 40, 42};
        for (int what : whats) {
            due("12: told(" + what + ") stays", busy("AB", 6).told(what), x.told(what));
        }
        due("12: FIGURE A stays", 1, x.goes(0, 0, 0));
        due("12: an IMAGE stays", 1, x.restore(0));
        unchangedBy("12: none away, it changes nothing", () -> market(5, "12340", "10234"), y -> y.home());
    }

    // ---- promise 13

    private static void whereFirstAndLast() {
        for (int n = 3; n <= 8; n++) {
            RoundDance x = market(n, round(n));
            String edge = "13: of " + n;
            due(edge + ", GOOD 0 at first", 0, x.where(0, 0));
            due(edge + ", the last GOOD at first", n - 1, x.where(n - 1, 0));
            due(edge + ", at the last PLACE at first", n - 1, x.where(n - 1, 1));
            danceRow(x, "A");
            due(edge + ", GOOD 0", 1, x.where(0, 0));
            due(edge + ", the last GOOD", 0, x.where(n - 1, 0));
            due(edge + ", the GOOD at PLACE 0", n - 1, x.where(0, 1));
            due(edge + ", the GOOD at the last PLACE", n - 2, x.where(n - 1, 1));
        }
    }

    private static void whereRefused() {
        int[] unknown = {LEAST, -1, 5, 8, 32, MOST};
        int[] outside = {LEAST, -1, 2, MOST};
        for (int k : unknown) {
            refused("13: GOOD " + k, UNKNOWN, x -> x.where(k, 0));
            refused("13: PLACE " + k, UNKNOWN, x -> x.where(k, 1));
            refused("13: " + k + " ahead of OUTSIDE", UNKNOWN, x -> x.where(k, 2));
            refused("13: " + k + " ahead of OUTSIDE -1", UNKNOWN, x -> x.where(k, -1));
        }
        for (int what : outside) {
            refused("13: what " + what, OUTSIDE, x -> x.where(0, what));
            refused("13: what " + what + " of the last", OUTSIDE, x -> x.where(4, what));
        }
        unchangedBy("13: asking for a GOOD changes nothing", () -> busy("DAD"), x -> x.where(0, 0));
        unchangedBy("13: asking for a PLACE changes nothing", () -> busy("43210"), x -> x.where(4, 1));
        for (int n = 3; n <= 8; n++) {
            int places = n;
            refused("13: one more than " + n, UNKNOWN, () -> market(places, round(places)),
                    x -> x.where(places, 0));
        }
    }

    // ---- promise 14

    private static int lengthOf(RoundDance x, String row) {
        return write(x, row).length();
    }

    private static void lengthLeastAndMost() {
        due("14: an empty ROW", 1, lengthOf(market(8), ""));
        due("14: a FIGURE that leaves all", 1, lengthOf(market(8), "A"));
        due("14: 20 FIGURES that leave all", 1, lengthOf(market(8), times("ABCDE", 4)));
        String[] longest = {"120", "1230", "12043", "123450", "1230564", "12045673"};
        int[] lengths = {3, 4, 6, 6, 12, 15};
        for (int n = 3; n <= 8; n++) {
            due("14: the most of " + n, lengths[n - 3], lengthOf(market(n, longest[n - 3]), "A"));
            due("14: an exchange of " + n, 2, lengthOf(market(n, exchange(n)), "A"));
            due("14: round " + n, n, lengthOf(market(n, round(n)), "A"));
            due("14: round " + n + " just as often as it has PLACES", 1,
                    lengthOf(market(n, round(n)), times("A", n)));
        }
    }

    private static void lengthOfTwenty() {
        int[] lengths = {3, 1, 1, 3, 7, 2};
        for (int n = 3; n <= 8; n++) {
            due("14: 20 times round " + n, lengths[n - 3], lengthOf(market(n, round(n)), times("A", 20)));
        }
        RoundDance x = market(5, round(5));
        danceRow(x, "A");
        due("14: it does not hang on where all is", 5, lengthOf(x, "A"));
        due("14: the PAD stays", 1, x.told(0));
    }

    private static void lengthWhateverIsSet() {
        RoundDance x = market(5, round(5), exchange(5));
        x.set(2, ALL_FIGURES);
        due("14: LENT forbids all", 5, lengthOf(x, "A"));
        x.set(2, 0);
        x.music(0, 2);
        due("14: the other MUSIC", 5, lengthOf(x, "A"));
        x.set(0, 1);
        due("14: one LAME", 4, lengthOf(x, "A"));
        x.set(0, 14);
        due("14: all but two LAME", 2, lengthOf(x, "A"));
        x.set(0, 15);
        due("14: all but one LAME", 1, lengthOf(x, "A"));
        x.set(0, 31);
        due("14: all LAME", 1, lengthOf(x, "AB"));
    }

    private static void lengthFaulty() {
        for (String row : NO_ROWS) {
            refused("14: '" + row + "'", NO, () -> busy(row), x -> x.length());
            refused("14: '" + row + "', none MAY be", NO, () -> judging(row, ALL_FIGURES), x -> x.length());
        }
        for (String pad : new String[] {"", "DAD", "ABCDEF"}) {
            unchangedBy("14: it changes nothing, '" + pad + "'", () -> busy(pad), x -> x.length());
        }
    }

    // ---- promise 15

    private static void signsOfAllSizes() {
        for (int n = 3; n <= 8; n++) {
            RoundDance x = market(n, round(n), exchange(n), straight(n));
            due("15: round " + n, n % 2, x.sign(0));
            due("15: an exchange of " + n, 0, x.sign(1));
            due("15: none of " + n, 1, x.sign(2));
            due("15: one that was not told, of " + n, 1, x.sign(5));
            give(x, 5, round(n));
            due("15: FIGURE F round " + n, n % 2, x.sign(5));
            String lastTwo = upFrom('0', n - 2) + (n - 1) + (n - 2);
            give(x, 4, lastTwo);
            due("15: the last two of " + n + " exchanged", 0, x.sign(4));
            give(x, 3, downTo('0', n));
            due("15: all turned round of " + n, n / 2 % 2 == 0 ? 1 : 0, x.sign(3));
        }
    }

    private static void signsWithLameOnes() {
        for (int n = 3; n <= 8; n++) {
            int all = (1 << n) - 1;
            for (int lame = 0; lame <= n; lame++) {
                RoundDance x = market(n, round(n));
                x.set(0, all >> n - lame);
                int left = Math.max(n - lame, 1);
                due("15: round " + n + ", of whom LAME " + lame, left % 2, x.sign(0));
                x.set(2, ALL_FIGURES);
                x.music(0, 2);
                due("15: whether it MAY be or not, LAME " + lame, left % 2, x.sign(0));
            }
        }
        RoundDance x = market(4, "1032");
        x.set(0, 1);
        due("15: one of an exchange LAME, the other exchange is left", 0, x.sign(0));
        x.set(0, 5);
        due("15: one of each exchange LAME", 1, x.sign(0));
    }

    private static void signRefused() {
        int[] unknown = {LEAST, -1, 6, 7, 32, MOST};
        for (int f : unknown) {
            refused("15: FIGURE " + f, UNKNOWN, x -> x.sign(f));
        }
        unchangedBy("15: asking changes nothing", () -> busy("DAD"), x -> x.sign(0));
        unchangedBy("15: asking for the last changes nothing", () -> busy("DAD"), x -> x.sign(5));
    }

    public static void main(String[] args) {
        judgeEmptyAndFull();
        judgeEachFigure();
        judgeChangesNothing();
        judgeFaulty();
        danceEmptyAndFull();
        danceFromWhereTheyAre();
        danceAllLame();
        danceRefused();
        homeNoneAndAll();
        homeWhateverIsSet();
        homeLeavesTheRest();
        whereFirstAndLast();
        whereRefused();
        lengthLeastAndMost();
        lengthOfTwenty();
        lengthWhateverIsSet();
        lengthFaulty();
        signsOfAllSizes();
        signsWithLameOnes();
        signRefused();
        end("EdgesOfDancesTest");
    }
}
