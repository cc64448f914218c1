/** The edges of promises 1 to 9: a new object, places, the pad, figures, what is set. */
public final class EdgesOfFiguresTest extends Edges {

    // ---- promise 1

    private static void newObjectTold() {
        int[] first = {0, 8, 0, 1, 0, 0, 0};
        for (int what = 0; what < first.length; what++) {
            due("1: told(" + what + ") at first", first[what], new RoundDance().told(what));
        }
        for (int f = 0; f < 6; f++) {
            due("1: MUSIC of FIGURE " + f + " is both at first", 3, new RoundDance().told(10 + f));
        }
        for (int c = 0; c < 2; c++) {
            due("1: CALLER " + c + " has all FIGURES at first", ALL_FIGURES, new RoundDance().told(20 + c));
        }
        for (int k = 0; k < 8; k++) {
            due("1: GOOD " + k + " is at PLACE " + k + " at first", k, new RoundDance().told(30 + k));
            due("1: GOOD " + k + " is not wanted at first", NONE, new RoundDance().told(40 + k));
        }
    }

    private static void newObjectFigures() {
        for (int f = 0; f < 6; f++) {
            for (int p = 0; p < 8; p++) {
                due("1: FIGURE " + f + " leaves PLACE " + p, p, new RoundDance().goes(f, p, 0));
                due("1: FIGURE " + f + " leaves PLACE " + p + ", danced", p, new RoundDance().goes(f, p, 1));
            }
        }
        due("1: all FIGURES MAY be at first", NONE, write(new RoundDance(), "ABCDEF").judge());
        due("1: no eighth PLACE beside 0 to 7", UNKNOWN, new RoundDance().where(8, 0));
    }

    private static void newObjectAnswers() {
        due("1: nothing stands on the PAD at first", 0, new RoundDance().wipe());
        due("1: one STANDING at first", 1, new RoundDance().standings());
        due("1: nothing is wanted at first", 0, new RoundDance().fewest(-1));
        due("1: no SIGHT at first", 0, new RoundDance().forget());
        due("1: no WISH at first", 0, new RoundDance().drop());
        due("1: no GOOD is away at first", 0, new RoundDance().home());
        due("1: IMAGE 0 is not kept at first", STATE, new RoundDance().restore(0));
        due("1: IMAGE 1 is not kept at first", STATE, new RoundDance().restore(1));
    }

    private static void newObjectsHoldNothingInCommon() {
        unchangedBy("1: what is done with one object is not done with another", () -> new RoundDance(),
                x -> busy("43210", 6).image(0));
    }

    private static void newObjectServesForAllItsCalls() {
        RoundDance x = new RoundDance();
        for (int call = 1; call < 512; call++) {
            x.say(33 + call % 94);
        }
        due("1: the 512th call", 30, x.told(0));
    }

    // ---- promise 2

    private static void placesThatMayBe() {
        for (int n = 3; n <= 8; n++) {
            String edge = "2: places(" + n + ")";
            due(edge + " of a new object", 8, new RoundDance().places(n));
            due(edge + ", then told(1)", n, market(n).told(1));
            due(edge + ": the last PLACE", n - 1, market(n).where(n - 1, 0));
            due(edge + ": none behind it", UNKNOWN, market(n).where(n, 0));
            due(edge + ": FIGURES leave the last PLACE", n - 1, market(n).goes(5, n - 1, 0));
            due(edge + ": no FIGURE knows more", UNKNOWN, market(n).goes(5, n, 0));
            due(edge + " again answers as many", n, market(n).places(n));
            for (int then = 3; then <= 8; then++) {
                due(edge + ", then places(" + then + ")", n, market(n).places(then));
            }
        }
    }

    private static void placesRefused() {
        int[] outside = {LEAST, -1, 0, 2, 9, 11, MOST, 256 + 5};
        for (int n : outside) {
            refused("2: places(" + n + ")", OUTSIDE, x -> x.places(n));
        }
        refused("2: places(2) of the fewest", OUTSIDE, () -> market(3, "120"), x -> x.places(2));
        refused("2: places(9) of the most", OUTSIDE, () -> market(8, "12345670"), x -> x.places(9));
    }

    private static RoundDance reopened(int n, int notes) {
        RoundDance x = busy("DA", notes);
        x.places(n);
        return x;
    }

    private static void placesMakeAsAtFirst() {
        for (int n = 3; n <= 8; n++) {
            String edge = "2: behind places(" + n + ") of five, as at first: ";
            for (int k = 0; k < n; k++) {
                due(edge + "GOOD " + k, k, reopened(n, 3).where(k, 0));
                due(edge + "WANT " + k, NONE, reopened(n, 3).told(40 + k));
                for (int f = 0; f < 6; f++) {
                    due(edge + "FIGURE " + f + " at " + k, k, reopened(n, 3).goes(f, k, 0));
                }
            }
            due(edge + "LAME", 0, reopened(n, 3).told(2));
            due(edge + "SIGHTS", 0, reopened(n, 6).told(5));
            due(edge + "SIGHTS do not bind", 1, reopened(n, 6).rows(0));
            due(edge + "there is room for SIGHTS", 1, reopened(n, 6).seen(0, 0, 0));
            due(edge + "WISHES", 0, reopened(n, 6).told(6));
            due(edge + "WISHES are worth nothing", 0, reopened(n, 6).served(0, -1));
            due(edge + "there is room for WISHES", 1, reopened(n, 6).wish(0, 0, 1));
        }
    }

    private static void placesThatGoAndComeBack() {
        RoundDance x = market(8, round(8));
        danceRow(x, "A");
        x.set(0, 255);
        x.want(7, 0);
        x.places(3);
        x.places(8);
        due("2: fewer and as many again: GOOD 7", 7, x.where(7, 0));
        due("2: fewer and as many again: WANT of GOOD 7", NONE, x.told(47));
        due("2: fewer and as many again: FIGURE A", 7, x.goes(0, 7, 0));
        due("2: fewer and as many again: LAME", 0, x.told(2));
    }

    private static void placesLeave() {
        for (int n = 3; n <= 8; n++) {
            String edge = "2: places(" + n + ") does not name ";
            due(edge + "the PAD", 2, reopened(n, 3).told(0));
            due(edge + "the PAD's signs", NONE, reopened(n, 3).fault(1));
            due(edge + "MUSIC played", 2, reopened(n, 3).told(3));
            due(edge + "LENT", 32, reopened(n, 3).told(4));
            due(edge + "MUSIC of B", 1, reopened(n, 3).told(11));
            due(edge + "MUSIC of C", 2, reopened(n, 3).told(12));
            due(edge + "FIGURES of CALLER 0", 13, reopened(n, 3).told(20));
            due(edge + "FIGURES of CALLER 1", 41, reopened(n, 3).told(21));
            due(edge + "IMAGE 0", 1, reopened(n, 3).restore(0));
            due(edge + "IMAGE 1", 1, reopened(n, 3).restore(1));
        }
    }

    // ---- promise 3

    private static void signsThatMayBe() {
        for (int sign = 33; sign <= 126; sign++) {
            due("3: say(" + sign + ")", 1, new RoundDance().say(sign));
        }
        RoundDance x = new RoundDance();
        for (int many = 1; many <= 30; many++) {
            due("3: sign number " + many, many, x.say(many % 2 == 0 ? 33 : 126));
            due("3: told(0) behind " + many, many, x.told(0));
        }
    }

    private static void signsRefused() {
        int[] outside = {LEAST, -1, 0, 32, 127, 128, 255, 256 + 65, 65536 + 65, MOST};
        for (int sign : outside) {
            refused("3: say(" + sign + ")", OUTSIDE, x -> x.say(sign));
        }
    }

    private static void padFull() {
        int[] signs = {33, 49, 65, 97, 126};
        for (String pad : new String[] {times("A", 30), "43210" + times("4", 25), "AAA" + times("!", 27)}) {
            for (int sign : signs) {
                refused("3: the 31st sign " + sign, FULL, () -> busy(pad), x -> x.say(sign));
            }
            for (int sign : new int[] {LEAST, 32, 127, MOST}) {
                refused("3: OUTSIDE ahead of FULL, " + sign, OUTSIDE, () -> busy(pad), x -> x.say(sign));
            }
        }
        RoundDance x = write(new RoundDance(), times("A", 29));
        due("3: the 30th is not FULL", 30, x.say(65));
        x.wipe();
        due("3: not FULL any more", 1, x.say(65));
    }

    // ---- promise 4

    private static void wipeEdges() {
        due("4: an empty PAD", 0, new RoundDance().wipe());
        due("4: one sign", 1, write(new RoundDance(), "!").wipe());
        due("4: a full PAD", 30, write(new RoundDance(), times("~", 30)).wipe());
        RoundDance x = write(new RoundDance(), "abc");
        x.wipe();
        due("4: told(0) is 0 then", 0, x.told(0));
        due("4: twice", 0, x.wipe());
        due("4: the next sign is the first", 1, x.say(33));
    }

    private static void wipeTakesTheSigns() {
        RoundDance x = write(market(3), "10");
        x.wipe();
        x.say('2');
        due("4: signs that went do not come back", 1, x.fault(0));
    }

    private static void wipeLeavesTheRest() {
        for (String pad : PADS) {
            Maker wiped = () -> {
                RoundDance x = busy(pad);
                x.wipe();
                return x;
            };
            unchanged("4: the PAD alone is wiped, '" + pad + "'", () -> busy(""), wiped);
        }
    }

    // ---- promise 5

    private static int faultOf(int n, String pad, int how) {
        return write(market(n), pad).fault(how);
    }

    /** A text in which each of n signs from a first one on must stand once. */
    private static void faultsEachOnce(char first, int how) {
        for (int n = 3; n <= 8; n++) {
            String whole = downTo(first, n);
            String edge = "5: how " + how + ", " + n + " PLACES: ";
            due(edge + "an empty PAD", 0, faultOf(n, "", how));
            due(edge + "one sign", 1, faultOf(n, whole.substring(0, 1), how));
            due(edge + "one too few", n - 1, faultOf(n, whole.substring(0, n - 1), how));
            due(edge + "just so many", NONE, faultOf(n, whole, how));
            due(edge + "one too many", n, faultOf(n, whole + whole.charAt(0), how));
            due(edge + "one too many that is none", n, faultOf(n, whole + "~", how));
            due(edge + "a full PAD", n, faultOf(n, (whole + times("!", 30)).substring(0, 30), how));
            due(edge + "the last one twice", n - 1, faultOf(n, whole.substring(0, n - 1) + whole.charAt(0), how));
            due(edge + "the first one twice", 1, faultOf(n, times(whole.substring(0, 1), 2), how));
            due(edge + "one above at first", 0, faultOf(n, (char) (first + n) + whole, how));
            due(edge + "one below at first", 0, faultOf(n, (char) (first - 1) + whole, how));
            String most = whole.substring(0, n - 1);
            due(edge + "one above at last", n - 1, faultOf(n, most + (char) (first + n), how));
            due(edge + "one below at last", n - 1, faultOf(n, most + (char) (first - 1), how));
            for (int i = 0; i < n; i++) {
                String broken = whole.substring(0, i) + "~" + whole.substring(i + 1);
                due(edge + "none at " + i, i, faultOf(n, broken, how));
                due(edge + "two faults, the first at " + i, i, faultOf(n, broken + "~", how));
            }
        }
        due("5: how " + how + ": the smallest sign", 0, faultOf(8, "!", how));
        due("5: how " + how + ": the largest sign", 0, faultOf(8, "~", how));
    }

    private static void faultsOfFigures() {
        faultsEachOnce('0', 0);
        due("5: how 0: a sign that is 32 above a digit", 0, faultOf(8, "P1234567", 0));
        due("5: how 0: a standing", 0, faultOf(8, "abcdefgh", 0));
        due("5: how 0: a row", 0, faultOf(8, "ABCDEF", 0));
    }

    private static void faultsOfStandings() {
        faultsEachOnce('a', 2);
        due("5: how 2: a sign that is 32 below a letter", 0, faultOf(8, "Abcdefgh", 2));
        due("5: how 2: a figure", 0, faultOf(8, "01234567", 2));
        due("5: how 2: a row", 0, faultOf(8, "ABCDEF", 2));
    }

    private static void faultsOfRows() {
        due("5: how 1: empty", NONE, faultOf(8, "", 1));
        for (char sign = 'A'; sign <= 'F'; sign++) {
            due("5: how 1: " + sign, NONE, faultOf(3, "" + sign, 1));
            due("5: how 1: " + sign + " may stand more than once", NONE, faultOf(3, times("" + sign, 20), 1));
        }
        char[] none = {'@', 'G', '!', '~', '0', 'a', 'f', 'g'};
        for (char sign : none) {
            due("5: how 1: " + sign + " at 0", 0, faultOf(8, sign + "A", 1));
            due("5: how 1: " + sign + " at 1", 1, faultOf(8, "A" + sign, 1));
            due("5: how 1: " + sign + " at 19 of 20", 19, faultOf(8, times("F", 19) + sign, 1));
            due("5: how 1: " + sign + " at 19 of 21", 19, faultOf(8, times("F", 19) + sign + "F", 1));
            due("5: how 1: " + sign + " at 20", 20, faultOf(8, times("F", 20) + sign, 1));
            due("5: how 1: " + sign + " at 21", 20, faultOf(8, times("F", 21) + sign, 1));
        }
        due("5: how 1: 20", NONE, faultOf(8, times("ABCDE", 4), 1));
        due("5: how 1: 21", 20, faultOf(8, times("ABC", 7), 1));
        due("5: how 1: 30", 20, faultOf(8, times("ABCDEF", 5), 1));
        RoundDance x = write(market(3), "ABCDEF");
        x.set(2, ALL_FIGURES);
        due("5: how 1: whether they MAY be or not", NONE, x.fault(1));
    }

    private static void faultRefused() {
        int[] outside = {LEAST, -1, 3, 4, MOST};
        for (int how : outside) {
            refused("5: fault(" + how + ")", OUTSIDE, x -> x.fault(how));
        }
        for (String pad : PADS) {
            for (int how = 0; how < 3; how++) {
                int told = how;
                unchangedBy("5: fault(" + how + ") changes nothing, '" + pad + "'", () -> busy(pad),
                        x -> x.fault(told));
            }
        }
    }

    // ---- promise 6

    private static void figuresThatMayBe() {
        for (int n = 3; n <= 8; n++) {
            for (int f = 0; f < 6; f++) {
                RoundDance x = write(market(n), downTo('0', n));
                String edge = "6: figure(" + f + ") of " + n + " PLACES";
                due(edge, 1, x.figure(f));
                due(edge + " empties the PAD", 0, x.told(0));
                for (int p = 0; p < n; p++) {
                    due(edge + " at " + p, n - 1 - p, x.goes(f, p, 0));
                    due(edge + " is not the next", p, x.goes((f + 1) % 6, p, 0));
                }
            }
        }
        RoundDance x = market(3, "120");
        give(x, 0, "012");
        due("6: a FIGURE becomes another one", 0, x.goes(0, 0, 0));
        due("6: from an empty PAD", NO, x.figure(0));
    }

    private static void figureUnknown() {
        int[] unknown = {LEAST, -1, 6, 7, 32, MOST};
        for (int f : unknown) {
            refused("6: figure(" + f + ")", UNKNOWN, () -> busy("43210"), x -> x.figure(f));
            refused("6: UNKNOWN ahead of NO, " + f, UNKNOWN, x -> x.figure(f));
        }
    }

    private static void figureFaulty() {
        String[] faulty = {"", "4", "4321", "432100", "43211", "43215", "/4321", "4321~", "edcba", "ABCDE",
            times("0", 30), "43210" + times("0", 25)};
        for (String pad : faulty) {
            refused("6: NO, '" + pad + "' to FIGURE 0", NO, () -> busy(pad), x -> x.figure(0));
            refused("6: NO, '" + pad + "' to FIGURE 5", NO, () -> busy(pad), x -> x.figure(5));
        }
    }

    // ---- promise 7

    private static void goesAsTold() {
        for (int n = 3; n <= 8; n++) {
            for (int f = 0; f < 6; f += 5) {
                RoundDance x = market(n);
                give(x, f, round(n));
                String edge = "7: of " + n + ", FIGURE " + f;
                due(edge + ", the first PLACE", 1, x.goes(f, 0, 0));
                due(edge + ", the last PLACE", 0, x.goes(f, n - 1, 0));
                due(edge + ", the first PLACE, none LAME", 1, x.goes(f, 0, 1));
                due(edge + ", the last PLACE, none LAME", 0, x.goes(f, n - 1, 1));
            }
        }
    }

    private static void goesWithLameOnes() {
        for (int n = 3; n <= 8; n++) {
            String edge = "7: round of " + n;
            int all = (1 << n) - 1;
            for (int p = 0; p < n; p++) {
                RoundDance x = market(n, round(n));
                x.set(0, all);
                due(edge + ", all LAME, as told " + p, (p + 1) % n, x.goes(0, p, 0));
                due(edge + ", all LAME: it stays " + p, p, x.goes(0, p, 1));
                x.set(0, all & ~(1 << p));
                due(edge + ", all but " + p + ": it stays", p, x.goes(0, p, 1));
                due(edge + ", all but " + p + ": the one ahead keeps", (p + 1) % n, x.goes(0, (p + 1) % n, 1));
                int far = (p + n - 1) % n;
                x.set(0, all & ~(1 << p) & ~(1 << far));
                due(edge + ", past as many as can be from " + p, far, x.goes(0, p, 1));
                due(edge + ", back from there to " + p, p, x.goes(0, far, 1));
                x.set(0, 1 << (p + 1) % n);
                due(edge + ", past one from " + p, (p + 2) % n, x.goes(0, p, 1));
                due(edge + ", a LAME one keeps", (p + 1) % n, x.goes(0, (p + 1) % n, 1));
            }
        }
        RoundDance x = market(8, "12034567");
        x.set(0, 2 | 4 | 128);
        due("7: all that follow are LAME, others are not", 0, x.goes(0, 0, 1));
        due("7: one that is not LAME stays, as told", 3, x.goes(0, 3, 1));
        x.set(2, ALL_FIGURES);
        due("7: whether it MAY be or not", 1, x.goes(0, 0, 0));
    }

    private static void goesRefused() {
        int[] noFigure = {LEAST, -1, 6, 38, MOST};
        int[] noPlace = {LEAST, -1, 5, 8, 32, MOST};
        int[] notYesOrNo = {LEAST, -1, 2, MOST};
        for (int f : noFigure) {
            refused("7: FIGURE " + f, UNKNOWN, x -> x.goes(f, 0, 0));
            refused("7: FIGURE " + f + " and no PLACE", UNKNOWN, x -> x.goes(f, 5, 1));
            refused("7: FIGURE " + f + " ahead of OUTSIDE", UNKNOWN, x -> x.goes(f, 4, 2));
            refused("7: FIGURE " + f + " and no PLACE ahead of OUTSIDE", UNKNOWN, x -> x.goes(f, -1, -1));
        }
        for (int p : noPlace) {
            refused("7: PLACE " + p, UNKNOWN, x -> x.goes(5, p, 1));
            refused("7: PLACE " + p + " ahead of OUTSIDE", UNKNOWN, x -> x.goes(0, p, 2));
        }
        for (int danced : notYesOrNo) {
            refused("7: danced " + danced, OUTSIDE, x -> x.goes(0, 0, danced));
            refused("7: danced " + danced + " at the last", OUTSIDE, x -> x.goes(5, 4, danced));
        }
        unchangedBy("7: asking changes nothing, as told", () -> busy("DAD"), x -> x.goes(0, 0, 0));
        unchangedBy("7: asking changes nothing, danced", () -> busy("43210"), x -> x.goes(5, 4, 1));
        for (int n = 3; n <= 8; n++) {
            int places = n;
            refused("7: PLACE " + n + " of " + n, UNKNOWN, () -> market(places, round(places)),
                    x -> x.goes(0, places, 0));
        }
    }

    // ---- promise 8

    private static void setLame() {
        for (int n = 3; n <= 8; n++) {
            int all = (1 << n) - 1;
            int places = n;
            RoundDance x = market(n, round(n));
            String edge = "8: LAME of " + n;
            due(edge + ": all, none were", 0, x.set(0, all));
            due(edge + ": told(2)", all, x.told(2));
            due(edge + ": the last alone, all were", all, x.set(0, 1 << n - 1));
            due(edge + ": none, the last was", 1 << n - 1, x.set(0, 0));
            due(edge + ": none again", 0, x.set(0, 0));
            refused(edge + ": a PLACE that there is not", OUTSIDE, () -> market(places, round(places)),
                    y -> y.set(0, 1 << places));
            refused(edge + ": one that there is, too", OUTSIDE, () -> market(places, round(places)),
                    y -> y.set(0, all + 2));
        }
        RoundDance x = market(8);
        x.set(0, 255);
        x.places(3);
        due("8: LAME goes with the PLACES", 0, x.set(0, 7));
    }

    private static void setMusicAndLent() {
        RoundDance x = market(3);
        due("8: MUSIC 1 was played", 1, x.set(1, 2));
        due("8: MUSIC 2 was played", 2, x.set(1, 2));
        due("8: MUSIC 2 again", 2, x.set(1, 1));
        due("8: told(3)", 1, x.told(3));
        due("8: LENT forbade none", 0, x.set(2, 63));
        due("8: LENT forbade all", 63, x.set(2, 32));
        due("8: told(4)", 32, x.told(4));
        due("8: LENT forbade F", 32, x.set(2, 0));
        due("8: LENT forbids none", 0, x.told(4));
        due("8: LAME is not touched", 0, x.told(2));
    }

    private static void setRefused() {
        int[] noLame = {LEAST, -1, 32, 33, 256, 1 << 31, MOST};
        int[] noMusic = {LEAST, -1, 0, 3, 4, MOST};
        int[] noLent = {LEAST, -1, 64, 65, 128, MOST};
        for (int v : noLame) {
            refused("8: LAME " + v, OUTSIDE, x -> x.set(0, v));
        }
        for (int v : noMusic) {
            refused("8: MUSIC " + v, OUTSIDE, x -> x.set(1, v));
        }
        for (int v : noLent) {
            refused("8: LENT " + v, OUTSIDE, x -> x.set(2, v));
        }
        for (int which : new int[] {LEAST, -1, 3, MOST}) {
            refused("8: which " + which, OUTSIDE, x -> x.set(which, 1));
            refused("8: which " + which + " and v", OUTSIDE, x -> x.set(which, -1));
        }
    }

    // ---- promise 9

    private static void musicOfFigures() {
        for (int f = 0; f < 6; f++) {
            RoundDance x = market(3);
            String edge = "9: FIGURE " + f;
            due(edge + ": both at first", 3, x.music(f, 1));
            due(edge + ": 1 was", 1, x.music(f, 2));
            due(edge + ": 2 was", 2, x.music(f, 3));
            due(edge + ": 3 was", 3, x.music(f, 3));
            x.music(f, 1);
            due(edge + ": told", 1, x.told(10 + f));
            due(edge + ": the next one's is as it was", 3, x.told(10 + (f + 1) % 6));
        }
    }

    private static void musicAllows() {
        for (int f = 0; f < 6; f++) {
            for (int v = 1; v <= 3; v++) {
                for (int played = 1; played <= 2; played++) {
                    RoundDance x = write(market(3), "" + (char) ('A' + f));
                    x.music(f, v);
                    x.set(1, played);
                    boolean has = v == 3 || v == played;
                    due("9: MUSIC " + v + " of " + f + " when " + played + " is played", has ? NONE : 0, x.judge());
                    x.set(2, ALL_FIGURES & ~(1 << f));
                    due("9: LENT forbids all others", has ? NONE : 0, x.judge());
                    x.set(2, 1 << f);
                    due("9: LENT forbids it", 0, x.judge());
                }
            }
        }
    }

    private static void musicRefused() {
        int[] noFigure = {LEAST, -1, 6, 32, MOST};
        int[] noMusic = {LEAST, -1, 0, 4, 5, MOST};
        for (int f : noFigure) {
            refused("9: FIGURE " + f, UNKNOWN, x -> x.music(f, 1));
            refused("9: FIGURE " + f + " ahead of OUTSIDE 0", UNKNOWN, x -> x.music(f, 0));
            refused("9: FIGURE " + f + " ahead of OUTSIDE 4", UNKNOWN, x -> x.music(f, 4));
        }
        for (int v : noMusic) {
            refused("9: MUSIC " + v + " of FIGURE 0", OUTSIDE, x -> x.music(0, v));
            refused("9: MUSIC " + v + " of FIGURE 5", OUTSIDE, x -> x.music(5, v));
        }
    }

    public static void main(String[] args) {
        newObjectTold();
        newObjectFigures();
        newObjectAnswers();
        newObjectsHoldNothingInCommon();
        newObjectServesForAllItsCalls();
        placesThatMayBe();
        placesRefused();
        placesMakeAsAtFirst();
        placesThatGoAndComeBack();
        placesLeave();
        signsThatMayBe();
        signsRefused();
        padFull();
        wipeEdges();
        wipeTakesTheSigns();
        wipeLeavesTheRest();
        faultsOfFigures();
        faultsOfStandings();
        faultsOfRows();
        faultRefused();
        figuresThatMayBe();
        figureUnknown();
        figureFaulty();
        goesAsTold();
        goesWithLameOnes();
        goesRefused();
        setLame();
        setMusicAndLent();
        setRefused();
        musicOfFigures();
        musicAllows();
        musicRefused();
        end("EdgesOfFiguresTest");
    }
}
