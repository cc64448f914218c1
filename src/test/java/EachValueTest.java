import java.util.ArrayList;
import java.util.List;

/** Each value that an argument may have, where they are few enough: each sign, text, PLACE, worth, seed and so on. */
public final class EachValueTest extends Edges {

    /** All texts of the signs from a first one on, each once, in their order. */
    private static List<String> texts(char first, int n) {
        List<String> all = new ArrayList<>();
        all.add("");
        for (int length = 0; length < n; length++) {
            List<String> longer = new ArrayList<>();
            for (String text : all) {
                for (int i = 0; i < n; i++) {
                    char sign = (char) (first + i);
                    if (text.indexOf(sign) < 0) {
                        longer.add(text + sign);
                    }
                }
            }
            all = longer;
        }
        return all;
    }

    // ---- the pad, figures, what is set

    private static void signs() {
        for (int n = 3; n <= 8; n++) {
            RoundDance x = market(n);
            for (char sign = 33; sign <= 126; sign++) {
                write(x, "" + sign);
                String edge = "5: of " + n + " the sign " + (int) sign + " alone";
                due(edge + ", how 0", sign >= '0' && sign < '0' + n ? 1 : 0, x.fault(0));
                if (n == 3) {
                    due(edge + ", how 1", sign >= 'A' && sign <= 'F' ? NONE : 0, x.fault(1));
                }
            }
            RoundDance y = market(n);
            for (char sign = 33; sign <= 126; sign++) {
                write(y, "" + sign);
                String edge = "5: of " + n + " the sign " + (int) sign + " alone";
                due(edge + ", how 2", sign >= 'a' && sign < 'a' + n ? 1 : 0, y.fault(2));
            }
        }
    }

    private static void figureTexts() {
        for (int n = 3; n <= 5; n++) {
            for (String text : texts('0', n)) {
                RoundDance x = write(market(n), text);
                due("5: how 0, " + text, NONE, x.fault(0));
                due("6: " + text, 1, x.figure(n));
                for (int p = 0; p < n; p++) {
                    due("7: " + text + ", as told " + p, text.charAt(p) - '0', x.goes(n, p, 0));
                }
                for (int lame = 0; lame < 1 << n; lame++) {
                    x.set(0, lame);
                    for (int p = 0; p < n; p++) {
                        due("7: " + text + ", LAME " + lame + ", danced " + p, goesTo(text, lame, p), x.goes(n, p, 1));
                    }
                }
            }
        }
    }

    private static int goesTo(String text, int lame, int place) {
        if ((lame >> place & 1) == 1) {
            return place;
        }
        int to = text.charAt(place) - '0';
        while ((lame >> to & 1) == 1) {
            to = text.charAt(to) - '0';
        }
        return to;
    }

    private static void setValues() {
        for (int n = 3; n <= 8; n++) {
            RoundDance x = market(n);
            for (int v = 1; v < 1 << n; v++) {
                due("8: LAME of " + n + " ahead of " + v, v - 1, x.set(0, v));
            }
            due("8: LAME of " + n + " at last", (1 << n) - 1, x.told(2));
        }
        RoundDance x = new RoundDance();
        for (int v = 1; v < 64; v++) {
            due("8: LENT ahead of " + v, v - 1, x.set(2, v));
            due("21: CALLER 0 ahead of " + v, v == 1 ? 63 : v - 1, x.caller(0, v));
            due("21: CALLER 1 ahead of " + (63 - v), 64 - v, x.caller(1, 63 - v));
        }
        due("33: LENT at last", 63, x.told(4));
        due("33: CALLER 0 at last", 63, x.told(20));
        due("33: CALLER 1 at last", 0, x.told(21));
    }

    /** Each LENT against each FIGURE: one alone, and the first of a row of all. */
    private static void lents() {
        for (int lent = 0; lent < 64; lent++) {
            RoundDance x = new RoundDance();
            x.set(2, lent);
            int may = 6 - Integer.bitCount(lent);
            due("8, 10: LENT " + lent + ", the first of all", lent == 0 ? NONE : Integer.numberOfTrailingZeros(lent),
                    write(x, "ABCDEF").judge());
            due("8, 25: LENT " + lent + ", ROWS of one", may, x.rows(1));
            due("8, 26: LENT " + lent + ", all that can have been", may == 0 ? NONE : 63 - lent, x.came(2, 1, 1));
            for (int f = 0; f < 6; f++) {
                boolean forbidden = (lent >> f & 1) == 1;
                write(x, "" + (char) ('A' + f));
                due("8, 10: LENT " + lent + ", FIGURE " + f, forbidden ? 0 : NONE, x.judge());
                due("8, 11: LENT " + lent + ", FIGURE " + f, forbidden ? NO : 1, x.dance());
            }
        }
    }

    // ---- dances

    private static int lengthOf(String text) {
        for (int length = 1; ; length++) {
            boolean home = true;
            for (int p = 0; p < text.length(); p++) {
                int at = p;
                for (int i = 0; i < length; i++) {
                    at = text.charAt(at) - '0';
                }
                home &= at == p;
            }
            if (home) {
                return length;
            }
        }
    }

    /** PLACES less the rings of a figure: a ring of so many takes one exchange less than it has PLACES. */
    private static int exchanges(String text) {
        int rings = 0;
        for (int p = 0; p < text.length(); p++) {
            int least = p;
            for (int at = text.charAt(p) - '0'; at != p; at = text.charAt(at) - '0') {
                least = Math.min(least, at);
            }
            rings += least == p ? 1 : 0;
        }
        return text.length() - rings;
    }

    /** All texts of up to seven PLACES, and some of eight, of which there are 40320. */
    private static void figuresDanced() {
        for (int n = 3; n <= 8; n++) {
            List<String> texts = texts('0', n);
            for (int i = 0; i < texts.size(); i += n == 8 ? 13 : 1) {
                String text = texts.get(i);
                RoundDance x = market(n, text);
                due("14: " + text, lengthOf(text), write(x, "A").length());
                due("15: " + text, exchanges(text) % 2 == 0 ? 1 : 0, x.sign(0));
                due("11: " + text, 1, x.dance());
                int away = 0;
                for (int k = 0; k < n; k++) {
                    int place = text.charAt(k) - '0';
                    away += place == k ? 0 : 1;
                    due("13: " + text + ", GOOD " + k, place, x.where(k, 0));
                    due("13: " + text + ", at PLACE " + place, k, x.where(place, 1));
                    due("33: " + text + ", GOOD " + k, place, x.told(30 + k));
                }
                due("18: " + text, lengthOf(text), x.standings());
                due("12: " + text, away, x.home());
            }
        }
    }

    private static void rowsOfTwo() {
        String[] figures = {"1230", "1023", "0213", "3210", "2301", "0132"};
        for (int f = 0; f < 6; f++) {
            for (int g = 0; g < 6; g++) {
                RoundDance x = market(4, figures);
                String row = "" + (char) ('A' + f) + (char) ('A' + g);
                due("11: " + row, 2, write(x, row).dance());
                for (int k = 0; k < 4; k++) {
                    int between = figures[f].charAt(k) - '0';
                    due("11: " + row + ", GOOD " + k, figures[g].charAt(between) - '0', x.where(k, 0));
                }
            }
        }
    }

    // ---- each GOOD at each PLACE

    private static void goodsAtPlaces() {
        for (int n = 3; n <= 8; n++) {
            for (int k = 0; k < n; k++) {
                RoundDance x = market(n, round(n));
                x.set(2, 62);
                x.caller(1, 0);
                for (int p = 0; p < n; p++) {
                    goodAtPlace("GOOD " + k + " at PLACE " + p + " of " + n, x, k, p, (p - k + n) % n);
                }
            }
        }
    }

    /** Round all places it takes a good so many times A alone. */
    private static void goodAtPlace(String edge, RoundDance x, int k, int p, int far) {
        due("16: " + edge, NONE, x.want(k, p));
        due("33: " + edge, p, x.told(40 + k));
        due("17: " + edge, far, x.fewest(-1));
        due("16: " + edge + ", no more", p, x.want(k, -1));
        due("22: " + edge, far == 0 ? 0 : 2 * far - 1, x.forced(k, p));
        due("23: " + edge, 1, x.seen(far, k, p));
        due("25: " + edge, 1, x.rows(far));
        due("24: " + edge, 1, x.forget());
        due("23: " + edge + ", one later", 1, x.seen(far + 1, k, p));
        due("25: " + edge + ", one later", 0, x.rows(far + 1));
        due("24: " + edge + ", one later", 1, x.forget());
        due("27: " + edge, 1, x.wish(k, p, 1 + far));
        for (int m = 0; m <= 6; m++) {
            due("29: " + edge + ", of " + m, m >= far ? 1 + far : 0, x.served(m, -1));
        }
        due("28: " + edge, 1, x.drop());
        due("30: " + edge, p, x.night(far, far, k, 1));
    }

    private static void standingTexts() {
        for (int n = 3; n <= 5; n++) {
            for (int times = 0; times < n; times++) {
                int come = 0;
                for (String text : texts('a', n)) {
                    RoundDance x = market(n, round(n));
                    danceRow(x, times("A", times));
                    due("5: how 2, " + text, NONE, write(x, text).fault(2));
                    boolean turned = (text + text).contains(upFrom('a', n));
                    due("19: " + text + " behind " + times, turned ? 1 : 0, x.canBe());
                    x.set(2, ALL_FIGURES);
                    boolean here = turned && text.charAt(times) == 'a';
                    due("19: " + text + " behind " + times + ", none MAY be", here ? 1 : 0, x.canBe());
                    come += turned ? 1 : 0;
                }
                due("18: as many as can be come to", come, market(n, round(n)).standings());
            }
        }
    }

    // ---- numbers

    private static void worths() {
        RoundDance x = market(3);
        RoundDance y = market(3, "120");
        for (int worth = 1; worth <= 99; worth++) {
            x.wish(2, 2, worth);
            due("27: worth " + worth, worth, x.served(0, -1));
            x.drop();
            y.wish(0, 1, worth);
            due("27: worth " + worth + " behind A", worth, y.served(1, -1));
            y.drop();
        }
    }

    private static void wishesOfOneAndAnother() {
        for (int first = 0; first < 6; first++) {
            for (int second = 0; second < 6; second++) {
                RoundDance x = market(3);
                int due = 0;
                for (int i = 0; i < 6; i++) {
                    boolean holds = i == first || i == second;
                    x.wish(i % 3, holds ? i % 3 : (i + 1) % 3, 1 << i);
                    due += holds ? 1 << i : 0;
                }
                due("29: WISHES " + first + " and " + second + " alone hold", due, x.served(0, -1));
            }
        }
    }

    private static void sightsOfOneAndAnother() {
        for (int wrong = -1; wrong < 6; wrong++) {
            RoundDance x = market(8);
            for (int i = 0; i < 6; i++) {
                x.seen(i, i, i == wrong ? 7 : i);
            }
            for (int m = 0; m <= 12; m++) {
                long all = 1;
                for (int i = 0; i < m; i++) {
                    all *= 6;
                }
                boolean fits = wrong < 0 || m < wrong;
                due("25: of six SIGHTS the one behind " + wrong + " fits not, of " + m, fits ? all : 0, x.rows(m));
            }
        }
    }

    /** Six figures, each of which brings GOOD 0 elsewhere. */
    private static void seeds() {
        for (int from = 0; from < 10000; from += 400) {
            RoundDance x = market(8, "10234567", "21034567", "31204567", "41230567", "51234067", "61234507");
            for (int seed = from; seed < from + 400; seed++) {
                int drawn = (75 * seed + 74) % 65537 % 6;
                due("30: seed " + seed, drawn + 1, x.night(seed, 1, 0, 1));
            }
        }
    }

    private static void lengthsOfNights() {
        for (int lent = 0; lent < 63; lent++) {
            RoundDance x = market(5, "12340", "10234", "01324", "43210", "20134", "01243");
            x.set(2, lent);
            long drawn = 31 * lent;
            int place = 3;
            int held = 8;
            for (int m = 1; m <= 99; m++) {
                drawn = (75 * drawn + 74) % 65537;
                int figure = numbered((int) (drawn % (6 - Integer.bitCount(lent))), lent);
                place = x.goes(figure, place, 0);
                held |= 1 << place;
                due("30: LENT " + lent + ", " + m + ", where", place, x.night(31 * lent, m, 3, 1));
                due("30: LENT " + lent + ", " + m + ", held", held, x.night(31 * lent, m, 3, 0));
            }
        }
    }

    private static int numbered(int number, int lent) {
        int left = number;
        for (int f = 0; f < 6; f++) {
            if ((lent >> f & 1) == 0 && left-- == 0) {
                return f;
            }
        }
        return -1;
    }

    public static void main(String[] args) {
        signs();
        figureTexts();
        setValues();
        lents();
        figuresDanced();
        rowsOfTwo();
        goodsAtPlaces();
        standingTexts();
        worths();
        wishesOfOneAndAnother();
        sightsOfOneAndAnother();
        seeds();
        lengthsOfNights();
        end("EachValueTest");
    }
}
