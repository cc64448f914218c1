/** The edges of promises 27 to 33: wishes, what is served, nights, images, what is told. */
public final class EdgesOfEveningsTest extends Edges {

    // ---- promise 27

    private static void wishFirstAndLast() {
        for (int n = 3; n <= 8; n++) {
            RoundDance x = market(n);
            String edge = "27: of " + n;
            due(edge + ", worth 1, the first", 1, x.wish(0, 0, 1));
            due(edge + ", worth 99, the last", 2, x.wish(n - 1, n - 1, 99));
            due(edge + ", the same once more", 3, x.wish(n - 1, n - 1, 99));
            due(edge + ", elsewhere, too", 4, x.wish(n - 1, 0, 98));
            due(edge + ", the fifth", 5, x.wish(0, n - 1, 2));
            due(edge + ", the sixth", 6, x.wish(0, 0, 50));
            due(edge + ", told(6)", 6, x.told(6));
            due(edge + ", the seventh", FULL, x.wish(0, 0, 1));
            due(edge + ", worth where all is", 1 + 99 + 99 + 50, x.served(0, -1));
        }
    }

    private static void wishRefused() {
        int[] unknown = {LEAST, -1, 5, 8, MOST};
        int[] outside = {LEAST, -1, 0, 100, 101, MOST};
        for (int k : unknown) {
            refused("27: GOOD " + k, UNKNOWN, x -> x.wish(k, 0, 1));
            refused("27: PLACE " + k, UNKNOWN, x -> x.wish(0, k, 99));
            refused("27: GOOD and PLACE " + k, UNKNOWN, x -> x.wish(k, k, 1));
            for (int worth : outside) {
                refused("27: GOOD " + k + " ahead of OUTSIDE " + worth, UNKNOWN, x -> x.wish(k, 0, worth));
                refused("27: PLACE " + k + " ahead of OUTSIDE " + worth, UNKNOWN, x -> x.wish(0, k, worth));
                refused("27: " + k + " ahead of OUTSIDE " + worth + " and FULL", UNKNOWN, () -> busy("", 6),
                        x -> x.wish(k, 0, worth));
            }
            refused("27: GOOD " + k + " ahead of FULL", UNKNOWN, () -> busy("", 6), x -> x.wish(k, 0, 1));
            refused("27: PLACE " + k + " ahead of FULL", UNKNOWN, () -> busy("", 6), x -> x.wish(0, k, 1));
        }
        for (int worth : outside) {
            refused("27: worth " + worth, OUTSIDE, x -> x.wish(0, 0, worth));
            refused("27: worth " + worth + " of the last", OUTSIDE, x -> x.wish(4, 4, worth));
            refused("27: worth " + worth + " ahead of FULL", OUTSIDE, () -> busy("", 6), x -> x.wish(0, 0, worth));
        }
    }

    private static void wishFull() {
        for (int worth : new int[] {1, 50, 99}) {
            refused("27: FULL, worth " + worth, FULL, () -> busy("DAD", 6), x -> x.wish(4, 0, worth));
        }
        due("27: five are not FULL", 6, busy("DAD", 5).wish(0, 0, 1));
        RoundDance x = busy("DAD", 6);
        x.drop();
        due("27: not FULL any more", 1, x.wish(0, 0, 1));
        due("27: SIGHTS are counted by themselves", 6, x.told(5));
    }

    // ---- promise 28

    private static void dropNoneAndAll() {
        for (int wishes = 0; wishes <= 6; wishes++) {
            RoundDance x = busy("DAD", wishes);
            due("28: there were " + wishes, wishes, x.drop());
            due("28: told(6) behind " + wishes, 0, x.told(6));
            due("28: worth behind " + wishes, 0, x.served(3, -1));
            due("28: twice behind " + wishes, 0, x.drop());
            due("28: SIGHTS stay, " + wishes, wishes, x.told(5));
            for (int many = 1; many <= 6; many++) {
                due("28: behind " + wishes + " there is room for " + many, many, x.wish(0, 0, 1));
            }
            due("28: behind " + wishes + " for no seventh", FULL, x.wish(0, 0, 1));
        }
        unchangedBy("28: none to drop", () -> busy("DAD", 0), y -> y.drop());
    }

    /** What was asked ahead of dropping must not be answered behind it, even if a part is wished again. */
    private static void dropAndWishAgain() {
        for (int asked = 0; asked < 2; asked++) {
            RoundDance x = market(4, "1230");
            x.wish(0, 0, 5);
            x.wish(0, 1, 9);
            due("28: two WISHES", 14, x.served(1, -1));
            x.drop();
            if (asked == 1) {
                due("28: none of them", 0, x.served(1, -1));
            }
            x.wish(0, 0, 5);
            due("28: one of them again", 5, x.served(1, -1));
        }
        for (int again = 0; again <= 6; again++) {
            RoundDance x = market(4, "1230");
            wishFirst(x, 6);
            due("28: six WISHES", 21, x.served(1, -1));
            x.drop();
            wishFirst(x, again);
            due("28: of six the first " + again + " again", again * (again + 1) / 2, x.served(1, -1));
        }
    }

    private static void wishFirst(RoundDance x, int many) {
        for (int i = 1; i <= many; i++) {
            x.wish(i % 4, i % 4, i);
        }
    }

    // ---- promise 29

    private static void due29(String edge, RoundDance x, int worth, String row) {
        int m = row.length();
        due("29: " + edge + ", worth", worth, x.served(m, -1));
        for (int i = 0; i < m; i++) {
            due("29: " + edge + ", FIGURE " + i, row.charAt(i), x.served(m, i));
        }
        due("29: " + edge + ", there are not so many", NONE, x.served(m, m));
        due("29: " + edge + ", far from so many", NONE, x.served(m, MOST));
        due("29: " + edge + ", none ahead", NONE, x.served(m, -2));
        due("29: " + edge + ", none far ahead", NONE, x.served(m, LEAST));
    }

    private static void servedByAnyRow() {
        for (int m = 0; m <= 6; m++) {
            due29("no WISH, of " + m, market(4, "1230"), 0, times("A", m));
            RoundDance x = market(4, "1230", "3012");
            x.wish(3, 3, 99);
            due29("it holds ahead, of " + m, x, 99, times("A", m));
            x.set(2, 31);
            due29("it holds ahead, F alone MAY be, of " + m, x, 99, times("F", m));
            RoundDance y = market(4, "1230", "3012");
            y.wish(0, 1, 1);
            y.set(0, 15);
            due29("all LAME, of " + m, y, 0, times("A", m));
        }
    }

    private static void servedByNoRow() {
        RoundDance x = market(4, "1230");
        x.wish(0, 0, 7);
        x.set(2, ALL_FIGURES);
        due29("none MAY be, an empty ROW", x, 7, "");
        for (int m = 1; m <= 6; m++) {
            for (int i : new int[] {LEAST, -2, -1, 0, m - 1, m, MOST}) {
                due("29: none MAY be, of " + m + ", i " + i, NONE, x.served(m, i));
            }
        }
        x.drop();
        due29("none MAY be, an empty ROW, no WISH", x, 0, "");
        due("29: none MAY be, no WISH", NONE, x.served(1, -1));
    }

    private static void servedAheadAndBehind() {
        for (int m = 0; m <= 6; m++) {
            RoundDance x = market(8, straight(8), round(8));
            x.set(2, 60);
            x.wish(0, 6, 99);
            due29("six times B, of " + m, x, m < 6 ? 0 : 99, m < 6 ? times("A", m) : times("B", 6));
            RoundDance y = market(8, straight(8), round(8));
            y.set(2, 60);
            y.wish(0, m, 40);
            due29("behind the last of " + m, y, 40, times("B", m));
            y.wish(7, 7, 2);
            due29("ahead and behind the last of " + m, y, 42, times("B", m));
        }
    }

    private static void servedMost() {
        RoundDance x = market(4, "0123", "1230", "3012");
        x.set(2, 56);
        x.wish(0, 1, 98);
        x.wish(0, 3, 99);
        due29("the dearer of two", x, 99, "C");
        due29("both with one between", x, 197, "BBB");
        due29("the dearer, as soon as can be last", x, 99, "AC");
        RoundDance even = market(4, "0123", "1230", "3012");
        even.set(2, 56);
        even.wish(0, 1, 99);
        even.wish(0, 3, 99);
        due29("the first of two as dear", even, 99, "B");
        RoundDance six = market(4, "1230");
        for (int i = 0; i < 6; i++) {
            six.wish(i % 4, (i + 1) % 4, 99);
        }
        due29("six WISHES, none ahead", six, 0, "");
        due29("six WISHES, all behind A", six, 594, "A");
        due29("six WISHES, all behind six", six, 594, "AAAAAA");
        RoundDance same = market(3, "120", "120", "201");
        same.wish(0, 1, 5);
        due29("A, not B, which does the same", same, 5, "A");
    }

    private static void servedFromWhereAllIs() {
        RoundDance x = market(4, "1230");
        x.wish(0, 2, 9);
        danceRow(x, "A");
        due29("from where all is", x, 9, "A");
        danceRow(x, "A");
        due29("it is there", x, 9, "");
        x.home();
        due29("at home", x, 0, "A");
        x.set(0, 2);
        due29("past a LAME one", x, 9, "A");
    }

    private static void servedRefused() {
        int[] outside = {LEAST, -1, 7, 8, MOST};
        for (int m : outside) {
            for (int i : new int[] {LEAST, -1, 0, 6, 7, MOST}) {
                refused("29: m " + m + ", i " + i, OUTSIDE, () -> busy("DAD"), x -> x.served(m, i));
            }
            RoundDance none = new RoundDance();
            none.set(2, ALL_FIGURES);
            due("29: m " + m + " ahead of NONE", OUTSIDE, none.served(m, -1));
        }
        unchangedBy("29: asking changes nothing", () -> busy("DAD"), x -> x.served(6, -1));
        unchangedBy("29: asking for a FIGURE changes nothing", () -> busy("DAD"), x -> x.served(6, 5));
        unchangedBy("29: NONE behind the last changes nothing", () -> busy("DAD"), x -> x.served(6, 6));
        Maker none = () -> {
            RoundDance x = busy("DAD");
            x.set(2, ALL_FIGURES);
            return x;
        };
        due("29: NONE as none MAY be", NONE, none.make().served(6, -1));
        unchangedBy("29: NONE changes nothing", none, x -> x.served(6, -1));
        unchangedBy("29: NONE of a FIGURE changes nothing", none, x -> x.served(1, 0));
    }

    // ---- promise 30

    /** Six figures, of which each brings GOOD 0 from PLACE 0 elsewhere: by it what is drawn is known. */
    private static RoundDance drawing() {
        return market(8, "10234567", "21034567", "31204567", "41230567", "51234067", "61234507");
    }

    private static void nightLeastAndMost() {
        RoundDance x = market(8, round(8));
        x.set(2, 62);
        for (int seed : new int[] {0, 1, 5000, 9998, 9999}) {
            String edge = "30: seed " + seed + ", A alone";
            due(edge + ", 0 FIGURES, held", 1, x.night(seed, 0, 0, 0));
            due(edge + ", 0 FIGURES, where", 0, x.night(seed, 0, 0, 1));
            due(edge + ", 1 FIGURE, held", 3, x.night(seed, 1, 0, 0));
            due(edge + ", 1 FIGURE, where", 1, x.night(seed, 1, 0, 1));
            due(edge + ", 7 FIGURES, held", 255, x.night(seed, 7, 0, 0));
            due(edge + ", 98 FIGURES, where", 2, x.night(seed, 98, 0, 1));
            due(edge + ", 99 FIGURES, where", 3, x.night(seed, 99, 0, 1));
            due(edge + ", 99 FIGURES, held", 255, x.night(seed, 99, 0, 0));
            due(edge + ", 99 FIGURES, the last GOOD", 2, x.night(seed, 99, 7, 1));
            due(edge + ", 6 FIGURES, held of the last GOOD", 191, x.night(seed, 6, 7, 0));
        }
    }

    private static void nightDraws() {
        // 0 becomes 74, 9999 becomes 749999, of which 29092 are left over; 74 is 12 sixes and 2, 29092 4848 and 4.
        due("30: seed 0 of six", 3, drawing().night(0, 1, 0, 1));
        due("30: seed 0 of six, held", 9, drawing().night(0, 1, 0, 0));
        due("30: seed 9999 of six", 5, drawing().night(9999, 1, 0, 1));
        // 872 becomes 65474, all of which is left over: 2 ahead of sixes; 873 becomes 65549, of which 12 are.
        due("30: the last seed that leaves all over", 3, drawing().night(872, 1, 0, 1));
        due("30: the first seed that does not", 1, drawing().night(873, 1, 0, 1));
        // 7864 becomes 589874, of which 41 are left over: 5 ahead of sixes.
        due("30: the last of six", 6, drawing().night(7864, 1, 0, 1));
    }

    private static void nightDrawsOfFewer() {
        // 74 is 14 fives and 4, 18 fours and 2, 24 threes and 2, 37 twos.
        int[] lents = {1, 3, 7, 15, 31};
        int[] drawn = {6, 5, 6, 5, 6};
        for (int i = 0; i < lents.length; i++) {
            RoundDance x = drawing();
            x.set(2, lents[i]);
            due("30: seed 0, LENT " + lents[i], drawn[i], x.night(0, 1, 0, 1));
            RoundDance y = drawing();
            for (int f = 0; f <= i; f++) {
                y.music(f, 2);
            }
            due("30: seed 0, other MUSIC for " + (i + 1), drawn[i], y.night(0, 1, 0, 1));
        }
        RoundDance x = drawing();
        x.set(2, 4);
        due("30: seed 0, those behind C count one less", 6, x.night(0, 1, 0, 1));
    }

    private static void nightGoesOn() {
        long x = 9999;
        int place = 0;
        int held = 1;
        for (int m = 1; m <= 99; m++) {
            x = (75 * x + 74) % 65537;
            int to = (int) (x % 6) + 1;
            place = place == 0 ? to : place == to ? 0 : place;
            held |= 1 << place;
            due("30: seed 9999 of six, " + m + ", where", place, drawing().night(9999, m, 0, 1));
            due("30: seed 9999 of six, " + m + ", held", held, drawing().night(9999, m, 0, 0));
        }
    }

    private static void nightNoneMayBe() {
        for (int m : new int[] {0, 1, 99}) {
            for (int k = 0; k < 8; k++) {
                RoundDance x = drawing();
                x.set(2, ALL_FIGURES);
                due("30: none MAY be, " + m + ", held " + k, 1 << k, x.night(0, m, k, 0));
                due("30: none MAY be, " + m + ", where " + k, k, x.night(9999, m, k, 1));
                RoundDance y = drawing();
                y.set(0, 255);
                due("30: all LAME, " + m + ", held " + k, 1 << k, y.night(9999, m, k, 0));
            }
        }
    }

    private static void nightFromWhereItIs() {
        RoundDance x = market(4, "1230");
        x.set(2, 62);
        danceRow(x, "A");
        due("30: from where it is, held ahead of it, too", 6, x.night(0, 1, 0, 0));
        due("30: from where it is, 0 FIGURES", 2, x.night(0, 0, 0, 0));
        due("30: nothing is danced in fact", 1, x.where(0, 0));
        x.set(0, 4);
        due("30: past a LAME one", 10, x.night(0, 1, 0, 0));
    }

    private static void nightRefused() {
        int[] unknown = {LEAST, -1, 5, 8, 32, MOST};
        int[] noSeed = {LEAST, -1, 10000, 65537, MOST};
        int[] noNight = {LEAST, -1, 100, 128, MOST};
        int[] noWhat = {LEAST, -1, 2, MOST};
        for (int k : unknown) {
            refused("30: GOOD " + k, UNKNOWN, x -> x.night(0, 0, k, 0));
            refused("30: GOOD " + k + " ahead of seed", UNKNOWN, x -> x.night(10000, 99, k, 1));
            refused("30: GOOD " + k + " ahead of m", UNKNOWN, x -> x.night(9999, 100, k, 1));
            refused("30: GOOD " + k + " ahead of what", UNKNOWN, x -> x.night(9999, 99, k, 2));
            refused("30: GOOD " + k + " ahead of all", UNKNOWN, x -> x.night(-1, -1, k, -1));
        }
        for (int seed : noSeed) {
            refused("30: seed " + seed, OUTSIDE, x -> x.night(seed, 99, 4, 1));
            refused("30: seed " + seed + " and m", OUTSIDE, x -> x.night(seed, 100, 0, 0));
            refused("30: seed " + seed + " and what", OUTSIDE, x -> x.night(seed, 0, 0, 2));
            refused("30: seed " + seed + ", m and what", OUTSIDE, x -> x.night(seed, -1, 0, -1));
        }
        for (int m : noNight) {
            refused("30: m " + m, OUTSIDE, x -> x.night(9999, m, 4, 1));
            refused("30: m " + m + " and what", OUTSIDE, x -> x.night(0, m, 0, -1));
        }
        for (int what : noWhat) {
            refused("30: what " + what, OUTSIDE, x -> x.night(9999, 99, 4, what));
            refused("30: what " + what + " of 0 FIGURES", OUTSIDE, x -> x.night(0, 0, 0, what));
        }
        unchangedBy("30: asking who held it changes nothing", () -> busy("DAD"), x -> x.night(9999, 99, 0, 0));
        unchangedBy("30: asking where it is changes nothing", () -> busy("DAD"), x -> x.night(9999, 99, 0, 1));
    }

    // ---- promises 31 and 32

    private static void imagesOfBothNumbers() {
        for (int n = 0; n < 2; n++) {
            String edge = "31: IMAGE " + n;
            RoundDance x = market(5, round(5));
            due("32: " + n + " was not kept", STATE, x.restore(n));
            due(edge, 1, x.image(n));
            due("32: the other one than " + n + " was not kept", STATE, x.restore(1 - n));
            danceRow(x, "A");
            due("32: restore(" + n + ")", 1, x.restore(n));
            due("32: as it was, " + n, 0, x.where(0, 0));
            danceRow(x, "A");
            due(edge + ", over the one that was kept", 1, x.image(n));
            x.home();
            due("32: the newer one, " + n, 1, x.restore(n));
            due("32: as it was the second time, " + n, 1, x.where(0, 0));
            x.home();
            due("32: once more, " + n, 1, x.restore(n));
            due("32: as it was once more, " + n, 1, x.where(0, 0));
            x.places(8);
            due("32: behind other PLACES, " + n, 1, x.restore(n));
            due("32: as many PLACES as there were, " + n, 5, x.told(1));
        }
    }

    private static void imagesAreTwo() {
        RoundDance x = market(5, round(5));
        x.image(0);
        danceRow(x, "A");
        x.image(1);
        danceRow(x, "A");
        x.restore(0);
        due("32: IMAGE 0 of two", 0, x.where(0, 0));
        x.restore(1);
        due("32: IMAGE 1 of two, kept ahead of IMAGE 0's restoring", 1, x.where(0, 0));
        x.restore(0);
        due("32: IMAGE 0 again", 0, x.where(0, 0));
        RoundDance y = market(5, round(5));
        y.image(0);
        y.image(1);
        y.restore(0);
        due("32: an IMAGE kept later is kept still", 1, y.restore(1));
    }

    private static void imageRefused() {
        int[] outside = {LEAST, -1, 2, 32, MOST};
        for (int n : outside) {
            refused("31: image(" + n + ")", OUTSIDE, x -> x.image(n));
            refused("31: image(" + n + "), none was kept", OUTSIDE, () -> market(4, "1230"), x -> x.image(n));
            refused("32: restore(" + n + ")", OUTSIDE, x -> x.restore(n));
            refused("32: OUTSIDE ahead of STATE, " + n, OUTSIDE, () -> market(4, "1230"), x -> x.restore(n));
        }
    }

    private static RoundDance changed(int kept) {
        RoundDance x = market(5, round(5), exchange(5));
        if (kept >= 0) {
            x.image(kept);
        }
        danceRow(x, "AB");
        x.set(0, 16);
        x.seen(1, 0, 1);
        x.wish(0, 1, 7);
        return write(x, "AB");
    }

    private static void restoreOfWhatWasNotKept() {
        refused("32: restore(0), none was kept", STATE, () -> changed(-1), x -> x.restore(0));
        refused("32: restore(1), none was kept", STATE, () -> changed(-1), x -> x.restore(1));
        refused("32: restore(0), IMAGE 1 was kept", STATE, () -> changed(1), x -> x.restore(0));
        refused("32: restore(1), IMAGE 0 was kept", STATE, () -> changed(0), x -> x.restore(1));
        refused("32: restore(0) of a new object", STATE, () -> new RoundDance(), x -> x.restore(0));
        refused("32: restore(1) of a new object", STATE, () -> new RoundDance(), x -> x.restore(1));
    }

    private static void keepingChangesNothing() {
        for (String pad : PADS) {
            Maker kept = () -> {
                RoundDance x = busy(pad, 6);
                x.image(1);
                return x;
            };
            RoundDance asked = kept.make();
            RoundDance spared = busy(pad, 6);
            for (int what = 0; what < 50; what++) {
                due("31: keeping changes nothing, told(" + what + ")", spared.told(what), asked.told(what));
            }
            unchangedBy("31: keeping once more changes nothing, '" + pad + "'", kept, x -> x.image(1));
            unchangedBy("32: restoring at once changes nothing, '" + pad + "'", kept, x -> x.restore(1));
        }
    }

    /** All parts one by one: what is done behind an image does not reach it, and goes by its restoring. */
    private static void imagesKeepEachPart() {
        Call[] changes = {
            x -> x.places(5), x -> x.places(8), x -> x.home(), x -> x.set(0, 0), x -> x.set(0, 3), x -> x.set(1, 1),
            x -> x.set(2, 0), x -> x.music(1, 3), x -> x.music(5, 1), x -> x.caller(0, 0), x -> x.caller(1, 63),
            x -> x.want(0, -1), x -> x.want(4, 4), x -> x.seen(0, 4, 0), x -> x.forget(), x -> x.wish(0, 0, 99),
            x -> x.drop(), x -> figureAnew(x), x -> otherSights(x), x -> otherWishes(x)};
        for (int i = 0; i < changes.length; i++) {
            for (int n = 0; n < 2; n++) {
                int kept = n;
                Call change = changes[i];
                Maker spared = () -> {
                    RoundDance x = busy("DAD");
                    x.image(kept);
                    return x;
                };
                Maker asked = () -> {
                    RoundDance x = spared.make();
                    change.on(x);
                    due("32: a change behind IMAGE " + kept, 1, x.restore(kept));
                    return write(x, "DAD");
                };
                unchanged("32: change " + i + " goes by restoring " + n, spared, asked);
            }
        }
    }

    private static long figureAnew(RoundDance x) {
        write(x, "43210");
        return x.figure(0);
    }

    private static long otherSights(RoundDance x) {
        x.forget();
        x.seen(3, 4, 1);
        x.seen(3, 0, 1);
        return x.seen(3, 1, 1);
    }

    private static long otherWishes(RoundDance x) {
        x.drop();
        x.wish(4, 1, 98);
        x.wish(4, 2, 97);
        return x.wish(4, 3, 96);
    }

    private static void imagesLeaveThePad() {
        for (String kept : PADS) {
            for (String pad : PADS) {
                Maker spared = () -> {
                    RoundDance x = busy(kept);
                    x.image(0);
                    return write(x, pad);
                };
                unchangedBy("32: the PAD is as it is, '" + kept + "' then '" + pad + "'", spared, x -> x.restore(0));
            }
        }
        RoundDance x = market(3, "120");
        x.image(0);
        x.places(4);
        write(x, "3210").restore(0);
        due("32: the PAD of more PLACES", 0, x.fault(0));
        due("32: the PAD of more PLACES is no FIGURE", NO, x.figure(0));
    }

    // ---- promise 33

    private static boolean isTold(int what, int n) {
        return what >= 0 && what <= 6 || what >= 10 && what <= 15 || what == 20 || what == 21
                || what >= 30 && what < 30 + n || what >= 40 && what < 40 + n;
    }

    private static void toldOrOutside() {
        for (int n = 3; n <= 8; n++) {
            RoundDance x = market(n);
            for (int what = -70; what <= 300; what++) {
                boolean outside = x.told(what) == OUTSIDE;
                due("33: of " + n + ", told(" + what + ") is told", isTold(what, n) ? 1 : 0, outside ? 0 : 1);
            }
            for (int what : new int[] {LEAST, LEAST + 30, LEAST + 40, MOST, 256 + 30, 1 << 16}) {
                due("33: of " + n + ", told(" + what + ")", OUTSIDE, market(n).told(what));
            }
        }
    }

    private static void tellingChangesNothing() {
        for (int what : new int[] {0, 1, 2, 3, 4, 5, 6, 10, 15, 20, 21, 30, 34, 40, 41, 44}) {
            unchangedBy("33: told(" + what + ") changes nothing", () -> busy("DAD"), x -> x.told(what));
        }
    }

    private static void toldRefused() {
        int[] outside = {LEAST, -1, 7, 9, 16, 19, 22, 29, 35, 39, 45, 48, 50, MOST};
        for (int what : outside) {
            refused("33: told(" + what + ")", OUTSIDE, () -> busy("DAD"), x -> x.told(what));
        }
    }

    private static void toldLeastAndMost() {
        RoundDance x = market(8, round(8));
        due("33: no sign", 0, x.told(0));
        due("33: a full PAD", 30, write(x, times("~", 30)).told(0));
        x.set(0, 255);
        x.set(1, 2);
        x.set(2, 63);
        due("33: all LAME", 255, x.told(2));
        due("33: MUSIC 2 played", 2, x.told(3));
        due("33: LENT forbids all", 63, x.told(4));
        for (int f = 0; f < 6; f++) {
            x.music(f, 1 + f % 3);
        }
        for (int f = 0; f < 6; f++) {
            due("33: MUSIC of FIGURE " + f, 1 + f % 3, x.told(10 + f));
        }
        x.caller(0, 0);
        x.caller(1, 62);
        due("33: CALLER 0 has none", 0, x.told(20));
        due("33: CALLER 1 has all but A", 62, x.told(21));
    }

    private static void toldOfEachGood() {
        for (int n = 3; n <= 8; n++) {
            RoundDance x = market(n, round(n));
            danceRow(x, "A");
            for (int k = 0; k < n; k++) {
                x.want(k, n - 1 - k);
            }
            for (int k = 0; k < n; k++) {
                due("33: of " + n + ", GOOD " + k + " is at", (k + 1) % n, x.told(30 + k));
                due("33: of " + n + ", GOOD " + k + " is wanted at", n - 1 - k, x.told(40 + k));
            }
            x.want(n - 1, -1);
            due("33: of " + n + ", the last is wanted no more", NONE, x.told(40 + n - 1));
            x.want(0, 0);
            due("33: of " + n + ", wanted at PLACE 0 is not NONE", 0, x.told(40));
        }
    }

    private static void toldOfNotes() {
        for (int notes = 0; notes <= 6; notes++) {
            due("33: SIGHTS " + notes, notes, busy("", notes).told(5));
            due("33: WISHES " + notes, notes, busy("", notes).told(6));
        }
    }

    public static void main(String[] args) {
        wishFirstAndLast();
        wishRefused();
        wishFull();
        dropNoneAndAll();
        dropAndWishAgain();
        servedByAnyRow();
        servedByNoRow();
        servedAheadAndBehind();
        servedMost();
        servedFromWhereAllIs();
        servedRefused();
        nightLeastAndMost();
        nightDraws();
        nightDrawsOfFewer();
        nightGoesOn();
        nightNoneMayBe();
        nightFromWhereItIs();
        nightRefused();
        imagesOfBothNumbers();
        imagesAreTwo();
        imageRefused();
        restoreOfWhatWasNotKept();
        keepingChangesNothing();
        imagesKeepEachPart();
        imagesLeaveThePad();
        toldOrOutside();
        tellingChangesNothing();
        toldRefused();
        toldLeastAndMost();
        toldOfEachGood();
        toldOfNotes();
        end("EdgesOfEveningsTest");
    }
}
