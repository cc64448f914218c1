/**
 * The sentences of "Terms" across all promises that use them: which FIGURES MAY be, who is LAME, and on what each
 * answer hangs and on what it does not.
 */
public final class TermsTest extends Edges {

    // ---- which FIGURES MAY be

    /** One figure goes round, all others leave all: whether it MAY be shows in each answer that asks for it. */
    private static RoundDance oneGoesRound(int figure) {
        RoundDance x = market(4);
        give(x, figure, round(4));
        return x;
    }

    /** 0 as at first, 1 to 4 it MAY be in another way, 5 and on it MAY not be. */
    private static RoundDance allowed(int figure, int way) {
        RoundDance x = oneGoesRound(figure);
        switch (way) {
            case 1: x.music(figure, 1); break;
            case 2: x.music(figure, 2); x.set(1, 2); break;
            case 3: x.set(1, 2); break;
            case 4: x.set(2, ALL_FIGURES & ~(1 << figure)); break;
            case 5: x.set(2, 1 << figure); break;
            case 6: x.music(figure, 2); break;
            case 7: x.music(figure, 1); x.set(1, 2); break;
            case 8: x.music(figure, 1); x.set(2, 1 << figure); break;
            default: break;
        }
        return x;
    }

    private static void figuresThatMayBe() {
        for (int f = 0; f < 6; f++) {
            for (int way = 0; way <= 8; way++) {
                boolean may = way <= 4;
                String edge = "FIGURE " + f + (may ? " MAY be, " : " MAY not be, ") + way;
                mayBeDanced(edge, f, way, may);
                mayBeWanted(edge, f, way, may);
                mayBeCalled(edge, f, way, may);
                mayHaveCome(edge, f, way, may);
                mayServe(edge, f, way, may);
            }
        }
    }

    private static void mayBeDanced(String edge, int f, int way, boolean may) {
        String row = "" + (char) ('A' + f);
        due("10: " + edge, may ? NONE : 0, write(allowed(f, way), row).judge());
        RoundDance x = write(allowed(f, way), row);
        due("11: " + edge, may ? 1 : NO, x.dance());
        due("11: " + edge + ", GOOD 0", may ? 1 : 0, x.where(0, 0));
        due("7: " + edge + ", as told", 1, allowed(f, way).goes(f, 0, 0));
        due("7: " + edge + ", danced", 1, allowed(f, way).goes(f, 0, 1));
        due("5: " + edge, NONE, write(allowed(f, way), row).fault(1));
        due("14: " + edge, 4, write(allowed(f, way), row).length());
        due("15: " + edge, 0, allowed(f, way).sign(f));
    }

    private static void mayBeWanted(String edge, int f, int way, boolean may) {
        RoundDance x = allowed(f, way);
        x.want(3, 0);
        due("17: " + edge, may ? 1 : NONE, x.fewest(-1));
        due("17: " + edge + ", its code", may ? 'A' + f : NONE, x.fewest(0));
        due("18: " + edge, may ? 4 : 1, x.standings());
        due("19: " + edge, may ? 1 : 0, write(x, "dabc").canBe());
        for (int k = 0; k < 4; k++) {
            due("20: " + edge + ", GOOD " + k, may ? 15 : 1 << k, x.sure(k));
        }
    }

    private static void mayBeCalled(String edge, int f, int way, boolean may) {
        RoundDance x = allowed(f, way);
        due("22: " + edge + ", CALLER 0 has all", may ? 1 : NONE, x.forced(0, 1));
        x.caller(0, 0);
        x.caller(1, 1 << f);
        due("22: " + edge + ", CALLER 1 has it alone", may ? 2 : NONE, x.forced(0, 1));
        x.caller(0, 1 << f);
        due("22: " + edge + ", both have it alone", may ? 3 : NONE, x.forced(0, 3));
    }

    private static void mayHaveCome(String edge, int f, int way, boolean may) {
        long many = way == 4 ? 1 : way >= 5 ? 5 : 6;
        due("25: " + edge + ", ROWS of one", many, allowed(f, way).rows(1));
        due("25: " + edge + ", ROWS of two", many * many, allowed(f, way).rows(2));
        RoundDance x = allowed(f, way);
        x.seen(1, 0, 1);
        due("25: " + edge + ", seen", may ? 1 : 0, x.rows(1));
        due("26: " + edge + ", the first", may ? 'A' + f : NONE, x.came(1, 0, 0));
        due("26: " + edge + ", all", may ? 1 << f : NONE, x.came(1, 0, 1));
        int free = may ? (way == 4 ? 1 << f : ALL_FIGURES) : NONE;
        due("26: " + edge + ", all behind it", free, x.came(2, 1, 1));
    }

    private static void mayServe(String edge, int f, int way, boolean may) {
        RoundDance x = allowed(f, way);
        x.wish(0, 1, 9);
        due("29: " + edge, may ? 9 : 0, x.served(1, -1));
        due("29: " + edge + ", its code", may ? 'A' + f : f == 0 ? 'B' : 'A', x.served(1, 0));
        if (way == 4) {
            due("30: " + edge + ", it alone", 1, x.night(0, 1, 0, 1));
            due("30: " + edge + ", it alone, held", 3, x.night(0, 1, 0, 0));
        }
        if (!may) {
            due("30: " + edge + ", others leave all", 0, x.night(5, 99, 0, 1));
            due("30: " + edge + ", others leave all, held", 1, x.night(5, 99, 0, 0));
        }
    }

    // ---- who is LAME

    /** One figure goes round four, of whom PLACE 1 is LAME: three go round, GOOD 1 stays. */
    private static RoundDance lameOne(int figure) {
        RoundDance x = oneGoesRound(figure);
        x.set(0, 2);
        return x;
    }

    private static void lameOnes() {
        for (int f = 0; f < 6; f++) {
            String edge = "FIGURE " + f + " past a LAME one";
            String row = "" + (char) ('A' + f);
            due("5: " + edge, NONE, write(lameOne(f), row).fault(1));
            due("7: " + edge + ", as told", 1, lameOne(f).goes(f, 0, 0));
            due("7: " + edge + ", danced", 2, lameOne(f).goes(f, 0, 1));
            due("7: " + edge + ", danced, the LAME one", 1, lameOne(f).goes(f, 1, 1));
            due("10: " + edge, NONE, write(lameOne(f), row).judge());
            RoundDance x = write(lameOne(f), row);
            due("11: " + edge, 1, x.dance());
            int[] places = {2, 1, 3, 0};
            for (int k = 0; k < 4; k++) {
                due("11: " + edge + ", GOOD " + k, places[k], x.where(k, 0));
            }
            due("14: " + edge, 3, write(lameOne(f), row).length());
            due("15: " + edge, 1, lameOne(f).sign(f));
            lameAndForbidden(edge + ", though it MAY not be", f);
            lameWanted(edge, f);
            lameCalledAndServed(edge, f);
        }
    }

    /** How a figure goes as danced is told whether it MAY be danced or not. */
    private static void lameAndForbidden(String edge, int f) {
        RoundDance x = write(lameOne(f), "" + (char) ('A' + f));
        x.set(2, ALL_FIGURES);
        due("7: " + edge, 2, x.goes(f, 0, 1));
        due("7: " + edge + ", the LAME one", 1, x.goes(f, 1, 1));
        due("14: " + edge, 3, x.length());
        due("15: " + edge, 1, x.sign(f));
        due("11: " + edge, NO, x.dance());
    }

    private static void lameWanted(String edge, int f) {
        RoundDance x = lameOne(f);
        x.want(0, 3);
        due("17: " + edge, 2, x.fewest(-1));
        due("17: " + edge + ", the last", 'A' + f, x.fewest(1));
        x.want(0, 1);
        due("17: " + edge + ", at it", NONE, x.fewest(-1));
        due("18: " + edge, 3, x.standings());
        due("19: " + edge + ", three go round", 1, write(x, "dbac").canBe());
        due("19: " + edge + ", four do not", 0, write(x, "dabc").canBe());
        due("20: " + edge, 13, x.sure(0));
        due("20: " + edge + ", GOOD 1", 2, x.sure(1));
    }

    private static void lameCalledAndServed(String edge, int f) {
        RoundDance x = lameOne(f);
        x.caller(0, 1 << f);
        x.caller(1, 1 << f);
        due("22: " + edge, 1, x.forced(0, 2));
        due("22: " + edge + ", two calls", 2, x.forced(0, 3));
        due("22: " + edge + ", at it", NONE, x.forced(0, 1));
        x.seen(1, 0, 2);
        due("25: " + edge, 1, x.rows(1));
        due("26: " + edge, 'A' + f, x.came(1, 0, 0));
        due("26: " + edge + ", all", 1 << f, x.came(1, 0, 1));
        x.wish(0, 2, 9);
        x.wish(0, 1, 8);
        due("29: " + edge, 9, x.served(1, -1));
        due("29: " + edge + ", its code", 'A' + f, x.served(1, 0));
        x.set(2, ALL_FIGURES & ~(1 << f));
        due("30: " + edge, 2, x.night(0, 1, 0, 1));
        due("30: " + edge + ", he who passed it on has not held it", 5, x.night(0, 1, 0, 0));
        due("30: " + edge + ", GOOD 1 with the LAME one", 2, x.night(0, 99, 1, 0));
    }

    /** Who becomes LAME keeps what he holds then; what was danced ahead of it stays danced. */
    private static void lameFromNowOn() {
        RoundDance x = market(4, round(4));
        danceRow(x, "A");
        x.set(0, 2);
        due("8: LAME now, GOOD 0 stays where it came to", 1, x.where(0, 0));
        danceRow(x, "A");
        int[] places = {1, 2, 3, 0};
        int[] then = {1, 3, 0, 2};
        for (int k = 0; k < 4; k++) {
            due("11: LAME now, GOOD " + k, then[k], x.where(k, 0));
        }
        x.set(0, 0);
        danceRow(x, "A");
        for (int k = 0; k < 4; k++) {
            due("11: LAME no more, GOOD " + k, (then[k] + 1) % 4, x.where(k, 0));
        }
        x.home();
        danceRow(x, "A");
        for (int k = 0; k < 4; k++) {
            due("11: LAME no more, from home, GOOD " + k, places[k], x.where(k, 0));
        }
    }

    // ---- where GOODS are

    /** GOOD 0 is at PLACE 1, but PLACE 0 has GOOD 3: none MAY be, so that all answers tell where a good is. */
    private static void goodsNotPlaces() {
        RoundDance x = market(4, round(4));
        danceRow(x, "A");
        x.set(2, ALL_FIGURES);
        for (int k = 0; k < 4; k++) {
            int place = (k + 1) % 4;
            int other = (k + 3) % 4;
            String edge = "GOOD " + k + " one place on";
            due("13: " + edge, place, x.where(k, 0));
            due("13: " + edge + ", at the PLACE of its number", other, x.where(k, 1));
            due("20: " + edge, 1 << place, x.sure(k));
            due("22: " + edge, 0, x.forced(k, place));
            due("22: " + edge + ", elsewhere", NONE, x.forced(k, other));
            due("30: " + edge, place, x.night(3, 9, k, 1));
            due("30: " + edge + ", held", 1 << place, x.night(3, 9, k, 0));
            due("33: " + edge, place, x.told(30 + k));
            x.want(k, place);
            due("17: " + edge, 0, x.fewest(-1));
            x.want(k, other);
            due("17: " + edge + ", elsewhere", NONE, x.fewest(-1));
            x.want(k, -1);
            x.wish(k, place, 5);
            x.wish(k, other, 7);
            due("29: " + edge, 5, x.served(0, -1));
            x.drop();
            x.seen(0, k, k);
            due("25: " + edge + ", from GOOD k at PLACE k", 1, x.rows(0));
            x.forget();
        }
        due("19: one place on", 1, write(x, "dabc").canBe());
        due("19: one place back", 0, write(x, "bcda").canBe());
    }

    /** All that are wanted must be there at once: one more that is wanted is another question. */
    private static void oneMoreIsWanted() {
        RoundDance x = market(4, exchange(4), "0213", "0132");
        danceRow(x, "A");
        x.want(0, 2);
        due("17: GOOD 0 from PLACE 1 to 2", 1, x.fewest(-1));
        x.want(1, 0);
        due("17: GOOD 1 is where it is wanted", 1, x.fewest(-1));
        x.want(2, 3);
        due("17: GOOD 2 from PLACE 2 to 3, too", 2, x.fewest(-1));
        x.want(0, -1);
        due("17: without GOOD 0", 1, x.fewest(-1));
        x.want(2, -1);
        due("17: without GOOD 2", 0, x.fewest(-1));
        RoundDance y = market(4, exchange(4), "0213");
        danceRow(y, "A");
        y.set(2, ALL_FIGURES - 2);
        y.want(0, 2);
        due("17: GOOD 0 by B", 1, y.fewest(-1));
        y.want(2, 0);
        due("17: GOOD 2 at PLACE 0, which B does not bring there", NONE, y.fewest(-1));
        y.want(2, 1);
        due("17: GOOD 2 at PLACE 1, which B does", 1, y.fewest(-1));
        y.want(1, 0);
        due("17: all three", 1, y.fewest(-1));
        y.want(3, 3);
        due("17: all four", 1, y.fewest(-1));
    }

    /** PLACE 0 is 0 in all reckoning, too: a good that is there and is wanted there must count all the same. */
    private static void oneMoreIsWantedAtPlace0() {
        RoundDance x = market(3, "120", "102");
        danceRow(x, "B");
        x.want(0, 2);
        due("17: GOOD 0 from PLACE 1 to 2", 1, x.fewest(-1));
        x.want(1, 0);
        due("17: GOOD 1 must be at PLACE 0 again, too", 2, x.fewest(-1));
        due("17: GOOD 1 must be at PLACE 0 again, the first", 'A', x.fewest(0));
        due("17: GOOD 1 must be at PLACE 0 again, the last", 'B', x.fewest(1));
        x.want(1, -1);
        due("17: GOOD 0 alone again", 1, x.fewest(-1));
    }

    // ---- on what answers hang

    private interface Question {
        String of(RoundDance x);
    }

    private static String list(long... answers) {
        StringBuilder text = new StringBuilder();
        for (long answer : answers) {
            text.append(answer).append(' ');
        }
        return text.toString();
    }

    private static String each(int count, java.util.function.IntToLongFunction answer) {
        StringBuilder text = new StringBuilder();
        for (int i = 0; i < count; i++) {
            text.append(answer.applyAsLong(i)).append(' ');
        }
        return text.toString();
    }

    private static final String[] NAMES = {
        "5: fault", "7: goes as told", "7: goes danced", "10: judge", "13: where", "14: length", "15: sign",
        "17: fewest", "18: standings", "19: canBe", "20: sure", "22: forced", "25: rows", "26: came", "29: served",
        "30: night"};
    private static final Question[] QUESTIONS = {
        x -> list(write(x, "AB").fault(1), write(x, "01239").fault(0), write(x, "edcba").fault(2)),
        x -> each(30, i -> x.goes(i / 5, i % 5, 0)),
        x -> each(30, i -> x.goes(i / 5, i % 5, 1)),
        x -> list(write(x, "CA").judge(), write(x, "DEFBA").judge(), write(x, "CCB").judge()),
        x -> each(5, i -> x.where(i, 0)) + each(5, i -> x.where(i, 1)),
        x -> list(write(x, "A").length(), write(x, "AB").length(), write(x, "CD").length()),
        x -> each(6, i -> x.sign(i)),
        x -> each(7, i -> x.fewest(i - 1)),
        x -> list(x.standings()),
        x -> list(write(x, "abcde").canBe(), write(x, "bacde").canBe(), write(x, "bcaed").canBe(),
                write(x, "cabde").canBe(), write(x, "bcade").canBe()),
        x -> each(5, i -> x.sure(i)),
        x -> each(25, i -> x.forced(i / 5, i % 5)),
        x -> each(7, i -> x.rows(i)),
        x -> each(10, i -> x.came(5, i % 5, i / 5)),
        x -> each(3, i -> x.served(2, i - 1)) + each(5, i -> x.served(4, i - 1)),
        x -> each(10, i -> x.night(77, 9, i % 5, i / 5))};

    private static final String[] PARTS = {
        "GOODS", "FIGURE A", "LAME", "MUSIC played", "MUSIC of A", "LENT", "WANTS", "CALLER 0", "CALLER 1",
        "SIGHTS", "WISHES", "the PAD", "IMAGES"};
    private static final Call[] CHANGES = {
        x -> danceForbidden(x), x -> figureA(x), x -> x.set(0, 1), x -> x.set(1, 2), x -> x.music(0, 2),
        x -> x.set(2, 1), x -> x.want(0, 2), x -> x.caller(0, 2), x -> x.caller(1, 1), x -> x.seen(4, 2, 1),
        x -> x.wish(4, 3, 9), x -> write(x, "FEDCBA").told(0), x -> x.image(0) + x.image(1)};

    /** A row for each question, a sign for each part: x, the answer hangs on it; -, it does not. */
    private static final String[] HANGS = {
        "-------------", "-x-----------", "-xx----------", "---xxx-------", "x------------", "-xx----------",
        "-xx----------", "xxxxxxx------", "-xxxxx-------", "xxxxxx-------", "xxxxxx-------", "xxxxxx-xx----",
        "-xxxxx---x---", "-xxxxx---x---", "xxxxxx----x--", "xxxxxx-------"};

    private static long danceForbidden(RoundDance x) {
        int lent = x.set(2, 0);
        write(x, "D").dance();
        return x.set(2, lent);
    }

    private static long figureA(RoundDance x) {
        return write(x, "10234").figure(0);
    }

    /** GOODS are away from home; MUSIC 1 is played, and A, B have it alone; D to F MAY not be. */
    private static RoundDance hanging() {
        RoundDance x = market(5, "12034", "01243", "01234", "40123", "10234", "01243");
        danceRow(x, "AB");
        x.music(0, 1);
        x.music(1, 1);
        x.set(2, 56);
        x.want(0, 0);
        x.caller(0, 3);
        x.caller(1, 6);
        x.seen(2, 0, 2);
        x.wish(0, 0, 5);
        x.wish(3, 3, 7);
        return x;
    }

    private static void answersHang() {
        for (int q = 0; q < QUESTIONS.length; q++) {
            for (int p = 0; p < PARTS.length; p++) {
                RoundDance x = hanging();
                CHANGES[p].on(x);
                boolean same = QUESTIONS[q].of(x).equals(QUESTIONS[q].of(hanging()));
                boolean hangs = HANGS[q].charAt(p) == 'x';
                due(NAMES[q] + (hangs ? " hangs on " : " does not hang on ") + PARTS[p], hangs ? 0 : 1, same ? 1 : 0);
            }
        }
    }

    public static void main(String[] args) {
        figuresThatMayBe();
        lameOnes();
        lameFromNowOn();
        goodsNotPlaces();
        oneMoreIsWanted();
        oneMoreIsWantedAtPlace0();
        answersHang();
        end("TermsTest");
    }
}
