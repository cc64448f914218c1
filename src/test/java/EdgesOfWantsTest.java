/** The edges of promises 16 to 20: wants, the fewest figures, standings. */
public final class EdgesOfWantsTest extends Edges {
    private static final int[] FACTORIALS = {1, 1, 2, 6, 24, 120, 720, 5040, 40320};

    // ---- promise 16

    private static void wantFirstAndLast() {
        for (int n = 3; n <= 8; n++) {
            RoundDance x = market(n);
            String edge = "16: of " + n;
            due(edge + ", GOOD 0 at the last PLACE", NONE, x.want(0, n - 1));
            due(edge + ", told(40)", n - 1, x.told(40));
            due(edge + ", the last GOOD at PLACE 0", NONE, x.want(n - 1, 0));
            due(edge + ", told of the last", 0, x.told(40 + n - 1));
            due(edge + ", GOOD 0 is not wanted any more", n - 1, x.want(0, -1));
            due(edge + ", told(40) then", NONE, x.told(40));
            due(edge + ", not wanted again", NONE, x.want(0, -1));
            due(edge + ", the last GOOD again where it was", 0, x.want(n - 1, 0));
            due(edge + ", GOOD 1 where GOOD 0 was", NONE, x.want(1, n - 1));
        }
    }

    private static void wantAll() {
        for (int n = 3; n <= 8; n++) {
            RoundDance x = market(n);
            for (int k = 0; k < n; k++) {
                due("16: of " + n + " all are wanted, " + k, NONE, x.want(k, n - 1 - k));
            }
            for (int k = 0; k < n; k++) {
                due("16: of " + n + " none has another PLACE, " + k, STATE, x.want(k, k == n - 1 - k ? 0 : k));
                due("16: of " + n + " each has its own, " + k, n - 1 - k, x.want(k, n - 1 - k));
            }
            for (int k = 0; k < n; k++) {
                due("16: of " + n + " none is wanted, " + k, n - 1 - k, x.want(k, -1));
            }
        }
    }

    private static void wantUnknown() {
        int[] noGood = {LEAST, -1, 5, 8, MOST};
        int[] noPlace = {LEAST, -3, -2, 5, 8, MOST};
        for (int good : noGood) {
            refused("16: GOOD " + good, UNKNOWN, x -> x.want(good, 1));
            refused("16: GOOD " + good + " not wanted", UNKNOWN, x -> x.want(good, -1));
            refused("16: GOOD " + good + " at no PLACE", UNKNOWN, x -> x.want(good, 5));
            refused("16: GOOD " + good + " ahead of STATE", UNKNOWN, x -> x.want(good, 3));
        }
        for (int place : noPlace) {
            refused("16: PLACE " + place + " for one that is wanted", UNKNOWN, x -> x.want(0, place));
            refused("16: PLACE " + place + " for one that is not", UNKNOWN, x -> x.want(4, place));
        }
        for (int n = 3; n <= 8; n++) {
            int places = n;
            refused("16: GOOD " + n + " of " + n, UNKNOWN, () -> market(places), x -> x.want(places, 0));
            refused("16: PLACE " + n + " of " + n, UNKNOWN, () -> market(places), x -> x.want(0, places));
        }
    }

    private static void wantWhereAnotherIs() {
        refused("16: another one is wanted there, this one is not", STATE, x -> x.want(1, 3));
        refused("16: another one is wanted there, this one elsewhere", STATE, x -> x.want(0, 0));
        refused("16: an earlier one is wanted there", STATE, x -> x.want(2, 3));
        refused("16: the last one where another one is wanted", STATE, x -> x.want(4, 0));
        RoundDance x = busy("");
        due("16: where it is wanted itself", 3, x.want(0, 3));
        due("16: no two are wanted nowhere", NONE, x.want(1, -1));
        due("16: none is nowhere", NONE, x.want(3, -1));
    }

    // ---- promise 17

    private static void due17(String edge, RoundDance x, String row) {
        due("17: " + edge + ", FIGURES", row.length(), x.fewest(-1));
        for (int i = 0; i < row.length(); i++) {
            due("17: " + edge + ", FIGURE " + i, row.charAt(i), x.fewest(i));
        }
        due("17: " + edge + ", none behind the last", NONE, x.fewest(row.length()));
        due("17: " + edge + ", none far behind", NONE, x.fewest(MOST));
        due("17: " + edge + ", none ahead", NONE, x.fewest(-2));
        due("17: " + edge + ", none far ahead", NONE, x.fewest(LEAST));
    }

    private static void dueNone17(String edge, RoundDance x) {
        int[] all = {LEAST, -2, -1, 0, 1, MOST};
        for (int i : all) {
            due("17: " + edge + ", i " + i, NONE, x.fewest(i));
        }
    }

    private static void fewestNoneNeeded() {
        due17("none wanted", market(4, "1230"), "");
        RoundDance x = market(4, "1230");
        x.want(2, 2);
        due17("one wanted where it is", x, "");
        for (int k = 0; k < 4; k++) {
            x.want(k, k);
        }
        due17("all wanted where they are", x, "");
        x.set(2, ALL_FIGURES);
        due17("wanted where they are, none MAY be", x, "");
        x.set(0, 15);
        due17("wanted where they are, all LAME", x, "");
        RoundDance y = market(4, "1230");
        y.set(2, ALL_FIGURES);
        due17("none wanted, none MAY be", y, "");
    }

    private static void fewestNoRow() {
        RoundDance x = market(4, "1230");
        x.want(0, 1);
        x.set(2, ALL_FIGURES);
        dueNone17("none MAY be", x);
        x.set(2, 0);
        x.set(1, 2);
        x.music(0, 1);
        dueNone17("none that leaves not all has the MUSIC", x);
        x.music(0, 3);
        due17("it has the MUSIC", x, "A");
        x.set(0, 15);
        dueNone17("all LAME", x);
        x.set(0, 2);
        dueNone17("wanted at a LAME one", x);
        x.set(0, 1);
        dueNone17("wanted from a LAME one", x);
        x.set(0, 14);
        dueNone17("all others LAME", x);
        dueNone17("FIGURES that leave all", wanting(market(8), 7, 0));
        RoundDance both = market(4, "1230");
        both.want(0, 1);
        both.want(1, 3);
        dueNone17("each alone, not both at once", both);
    }

    private static RoundDance wanting(RoundDance x, int good, int place) {
        x.want(good, place);
        return x;
    }

    private static void fewestFirstOfSome() {
        due17("A, not B, which is as good", wanting(market(3, "120", "120"), 0, 1), "A");
        due17("F alone", wanting(market(3, "012", "012", "012", "012", "012", "120"), 0, 1), "F");
        due17("B, though AA comes ahead of it", wanting(market(3, "120", "201"), 0, 2), "B");
        due17("AB, not BA", wanting(market(4, "1032", "2301"), 0, 3), "AB");
        due17("the longest way round", wanting(market(8, round(8)), 0, 7), "AAAAAAA");
        due17("the last GOOD to the first PLACE", wanting(market(8, round(8)), 7, 0), "A");
    }

    private static void fewestFromWhereTheyAre() {
        RoundDance x = wanting(market(4, "1230"), 0, 1);
        danceRow(x, "A");
        due17("it is there", x, "");
        danceRow(x, "A");
        due17("it is beyond", x, "AAA");
        x.home();
        due17("at home again", x, "A");
        x.set(0, 4);
        x.want(0, 3);
        due17("past a LAME one", x, "AA");
    }

    private static void fewestOfAll() {
        RoundDance x = market(3, "120", "102");
        for (int k = 0; k < 3; k++) {
            x.want(k, 2 - k);
        }
        due17("all three turned round", x, "BA");
        x.set(2, 2);
        dueNone17("all three, without an exchange", x);
    }

    // ---- promise 18

    private static void standingsLeast() {
        for (int n = 3; n <= 8; n++) {
            String edge = "18: of " + n;
            due(edge + ", FIGURES that leave all", 1, market(n).standings());
            RoundDance x = market(n, round(n), exchange(n));
            x.set(2, ALL_FIGURES);
            due(edge + ", none MAY be", 1, x.standings());
            x.set(2, 0);
            x.set(0, (1 << n) - 1);
            due(edge + ", all LAME", 1, x.standings());
            x.set(0, (1 << n) - 2);
            due(edge + ", all but one LAME", 1, x.standings());
            x.set(0, (1 << n) - 4);
            due(edge + ", all but two LAME", 2, x.standings());
        }
    }

    private static void standingsMost() {
        for (int n = 3; n <= 8; n++) {
            String edge = "18: of " + n;
            RoundDance x = market(n, round(n), exchange(n));
            due(edge + ", all", FACTORIALS[n], x.standings());
            danceRow(x, "AB");
            due(edge + ", all, from elsewhere", FACTORIALS[n], x.standings());
            x.set(0, 1 << n - 1);
            due(edge + ", all but that of a LAME one", FACTORIALS[n - 1], x.standings());
            RoundDance y = market(n, round(n));
            due(edge + ", round alone", n, y.standings());
            due(edge + ", half of all", FACTORIALS[n] / 2, evenMarket(n).standings());
        }
    }

    /** Three round at 0, and round all or all but the first: both can be made of an even number of exchanges. */
    private static RoundDance evenMarket(int n) {
        String three = "120" + upFrom('3', n - 3);
        String turned = n % 2 == 1 ? round(n) : "0" + upFrom('2', n - 2) + "1";
        return market(n, three, turned);
    }

    // ---- promise 19

    private static int canBe(RoundDance x, String standing) {
        return write(x, standing).canBe();
    }

    private static void canBeThisOne() {
        for (int n = 3; n <= 8; n++) {
            RoundDance x = market(n, round(n));
            String edge = "19: of " + n;
            due(edge + ", this one", 1, canBe(x, upFrom('a', n)));
            due(edge + ", the PAD stays", n, x.told(0));
            x.set(2, ALL_FIGURES);
            due(edge + ", this one, none MAY be", 1, canBe(x, upFrom('a', n)));
            due(edge + ", another one, none MAY be", 0, canBe(x, upFrom('b', n - 1) + "a"));
            x.set(2, 0);
            x.set(0, (1 << n) - 1);
            due(edge + ", this one, all LAME", 1, canBe(x, upFrom('a', n)));
            due(edge + ", another one, all LAME", 0, canBe(x, upFrom('b', n - 1) + "a"));
        }
    }

    private static void canBeOthers() {
        for (int n = 3; n <= 8; n++) {
            RoundDance x = market(n, round(n));
            String edge = "19: of " + n;
            String behindA = (char) ('a' + n - 1) + upFrom('a', n - 1);
            due(edge + ", behind A", 1, canBe(x, behindA));
            due(edge + ", round the other way, too", 1, canBe(x, upFrom('b', n - 1) + "a"));
            due(edge + ", not the first two exchanged", 0, canBe(x, "ba" + upFrom('c', n - 2)));
            danceRow(x, "A");
            x.set(2, 1);
            due(edge + ", where they are", 1, canBe(x, behindA));
            due(edge + ", not where they were", 0, canBe(x, upFrom('a', n)));
            due(edge + ", not the other way round", 0, canBe(x, upFrom('b', n - 1) + "a"));
            due(edge + ", an odd one", 0, canBe(evenMarket(n), "ba" + upFrom('c', n - 2)));
            due(edge + ", an even one", 1, canBe(evenMarket(n), "bca" + upFrom('d', n - 3)));
            due(edge + ", all", 1, canBe(market(n, exchange(n), round(n)), downTo('a', n)));
        }
    }

    private static void canBeFaulty() {
        String[] faulty = {"", "e", "edcb", "edcbaa", "edcbb", "edcbf", "`dcba", "edcb~", "Edcba", "43210", "ABCDE",
            times("a", 30), "edcba" + times("!", 25)};
        for (String pad : faulty) {
            refused("19: '" + pad + "'", NO, () -> busy(pad), x -> x.canBe());
        }
        unchangedBy("19: it changes nothing", () -> busy("edcba"), x -> x.canBe());
    }

    // ---- promise 20

    private static void sureNoneAndAll() {
        for (int n = 3; n <= 8; n++) {
            int all = (1 << n) - 1;
            for (int k = 0; k < n; k++) {
                String edge = "20: of " + n + ", GOOD " + k;
                RoundDance x = market(n, round(n));
                due(edge + " round", all, x.sure(k));
                x.set(0, 1);
                due(edge + ", the first LAME", k == 0 ? 1 : all - 1, x.sure(k));
                x.set(0, all);
                due(edge + ", all LAME", 1 << k, x.sure(k));
                x.set(0, 0);
                x.set(2, ALL_FIGURES);
                due(edge + ", none MAY be", 1 << k, x.sure(k));
                due(edge + ", FIGURES that leave all", 1 << k, market(n).sure(k));
            }
        }
    }

    private static void sureFromWhereItIs() {
        RoundDance x = market(8, "10324567", "01234576");
        danceRow(x, "AB");
        due("20: GOOD 0 with its exchange", 3, x.sure(0));
        due("20: the last GOOD with its exchange", 192, x.sure(7));
        due("20: one that none goes to", 16, x.sure(4));
        x.set(2, 3);
        due("20: GOOD 0 where it is alone", 2, x.sure(0));
        due("20: the last GOOD where it is alone", 64, x.sure(7));
    }

    private static void sureUnknown() {
        int[] unknown = {LEAST, -1, 5, 8, 32, MOST};
        for (int good : unknown) {
            refused("20: GOOD " + good, UNKNOWN, x -> x.sure(good));
        }
        for (int n = 3; n <= 8; n++) {
            int places = n;
            refused("20: GOOD " + n + " of " + n, UNKNOWN, () -> market(places, round(places)), x -> x.sure(places));
        }
    }

    private static void askingChangesNothing() {
        for (String pad : PADS) {
            Maker maker = () -> busy(pad);
            unchangedBy("17: asking changes nothing, '" + pad + "'", maker, x -> x.fewest(-1));
            unchangedBy("17: asking for a FIGURE changes nothing, '" + pad + "'", maker, x -> x.fewest(0));
            unchangedBy("17: NONE behind the last changes nothing, '" + pad + "'", maker, x -> x.fewest(MOST));
            unchangedBy("18: asking changes nothing, '" + pad + "'", maker, x -> x.standings());
            unchangedBy("20: asking changes nothing, '" + pad + "'", maker, x -> x.sure(0));
        }
        Maker none = () -> wanting(busy("DAD"), 0, 4);
        due("17: NONE as PLACE 4 is LAME", NONE, none.make().fewest(-1));
        unchangedBy("17: NONE changes nothing", none, x -> x.fewest(-1));
        unchangedBy("17: NONE of a FIGURE changes nothing", none, x -> x.fewest(0));
    }

    public static void main(String[] args) {
        wantFirstAndLast();
        wantAll();
        wantUnknown();
        wantWhereAnotherIs();
        fewestNoneNeeded();
        fewestNoRow();
        fewestFirstOfSome();
        fewestFromWhereTheyAre();
        fewestOfAll();
        standingsLeast();
        standingsMost();
        canBeThisOne();
        canBeOthers();
        canBeFaulty();
        sureNoneAndAll();
        sureFromWhereItIs();
        sureUnknown();
        askingChangesNothing();
        end("EdgesOfWantsTest");
    }
}
