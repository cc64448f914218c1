/**
 * All markets of three PLACES with two FIGURES: each pair of texts, all LAME, each standing, held against PlainModel;
 * wants, callers, sights and wishes go by turns, so that each of them meets all figures.
 */
public final class SmallWorldsTest {
    private static final String[] TEXTS = {"012", "021", "102", "120", "201", "210"};
    private static final String[] STANDINGS = {"abc", "acb", "bac", "bca", "cab", "cba"};
    private static final String[] ROWS = {"", "A", "B", "AB", "BA", "ABB"};
    private static final int MOST_CALLS = 512;

    private static int wrong = 0;
    private static long asked = 0;

    private final RoundDance x = new RoundDance();
    private final PlainModel y = new PlainModel();
    private final int number;
    private final String name;
    private int used = 0;

    private SmallWorldsTest(int number, String name) {
        this.number = number;
        this.name = name;
    }

    private void same(String call, long got, long want) {
        asked++;
        used++;
        if (got != want) {
            wrong++;
            if (wrong < 30) {
                System.out.println(name + ": " + call + " answered " + got + ", the model " + want);
            }
        }
    }

    private void write(String text) {
        same("wipe", x.wipe(), y.wipe());
        for (char sign : text.toCharArray()) {
            same("say", x.say(sign), y.say(sign));
        }
    }

    private void give(int figure, String text) {
        write(text);
        same("6: figure", x.figure(figure), y.figure(figure));
    }

    private void open(String first, String second, int lame, String standing) {
        same("2: places", x.places(3), y.places(3));
        give(0, first);
        give(1, second);
        give(5, standing);
        write("F");
        same("11: dance", x.dance(), y.dance());
        same("8: set", x.set(2, 60), y.set(2, 60));
        same("8: set", x.set(0, lame), y.set(0, lame));
    }

    private void figures() {
        for (int f = 0; f < 2; f++) {
            for (int p = 0; p < 3; p++) {
                same("7: goes", x.goes(f, p, 1), y.goes(f, p, 1));
            }
            same("15: sign", x.sign(f), y.sign(f));
        }
        for (String row : ROWS) {
            write(row);
            same("14: length of " + row, x.length(), y.length());
        }
    }

    private void standings() {
        same("18: standings", x.standings(), y.standings());
        for (String standing : STANDINGS) {
            write(standing);
            same("19: canBe " + standing, x.canBe(), y.canBe());
        }
        for (int k = 0; k < 3; k++) {
            same("20: sure " + k, x.sure(k), y.sure(k));
        }
    }

    /** Wants of each good by turns: -1 to 2; those that another one holds are refused by both. */
    private void wants() {
        for (int turn = 0; turn < 3; turn++) {
            int wants = number * 3 + turn;
            for (int k = 0; k < 3; k++) {
                int place = wants % 4 - 1;
                wants /= 4;
                same("16: want " + k + " " + place, x.want(k, place), y.want(k, place));
            }
            for (int i = -1; i < 4; i++) {
                same("17: fewest " + i, x.fewest(i), y.fewest(i));
            }
        }
    }

    private void callers() {
        int first = number % 4;
        int second = number / 4 % 4;
        same("21: caller 0", x.caller(0, first), y.caller(0, first));
        same("21: caller 1", x.caller(1, second), y.caller(1, second));
        for (int k = 0; k < 3; k++) {
            for (int p = 0; p < 3; p++) {
                same("22: forced " + k + " " + p + " by " + first + ", " + second, x.forced(k, p), y.forced(k, p));
            }
        }
    }

    private void sights() {
        for (int sight = 0; sight < 3; sight++) {
            int drawn = number * 7 + sight * 31;
            int behind = drawn % 5;
            int good = drawn / 5 % 3;
            int place = drawn / 15 % 3;
            same("23: seen", x.seen(behind, good, place), y.seen(behind, good, place));
            for (int m = 0; m <= 5; m++) {
                same("25: rows " + m, x.rows(m), y.rows(m));
                same("26: came " + m, x.came(m, m / 2, 0), y.came(m, m / 2, 0));
                same("26: came " + m, x.came(m, m / 2, 1), y.came(m, m / 2, 1));
            }
        }
    }

    private void wishes() {
        for (int wish = 0; wish < 3; wish++) {
            int drawn = number * 5 + wish * 23;
            int worth = 1 + drawn % 7;
            int good = drawn % 3;
            int place = drawn / 3 % 3;
            same("27: wish", x.wish(good, place, worth), y.wish(good, place, worth));
            for (int m = 0; m <= 4; m++) {
                same("29: served " + m, x.served(m, -1), y.served(m, -1));
                same("29: served " + m, x.served(m, m - 1), y.served(m, m - 1));
                same("29: served " + m, x.served(m, m / 2), y.served(m, m / 2));
            }
        }
    }

    private void nights() {
        for (int k = 0; k < 3; k++) {
            same("30: night", x.night(number, 3 + k, k, 0), y.night(number, 3 + k, k, 0));
            same("30: night", x.night(number, 3 + k, k, 1), y.night(number, 3 + k, k, 1));
            same("13: where", x.where(k, 0), y.where(k, 0));
            same("13: where", x.where(k, 1), y.where(k, 1));
        }
        same("12: home", x.home(), y.home());
    }

    private void askAll() {
        figures();
        standings();
        wants();
        callers();
        sights();
        wishes();
        nights();
        if (used > MOST_CALLS) {
            wrong++;
            System.out.println(name + ": an object was used for " + used + " calls");
        }
    }

    public static void main(String[] args) {
        int number = 0;
        for (String first : TEXTS) {
            for (String second : TEXTS) {
                for (String standing : TEXTS) {
                    for (int lame = 0; lame < 8; lame++) {
                        String name = "A " + first + ", B " + second + ", behind " + standing + ", LAME " + lame;
                        SmallWorldsTest world = new SmallWorldsTest(number, name);
                        world.open(first, second, lame, standing);
                        world.askAll();
                        number++;
                    }
                }
            }
        }
        System.out.println("SmallWorldsTest: " + number + " markets, " + asked + " answers, " + wrong + " wrong");
        if (wrong != 0) {
            System.exit(1);
        }
    }
}
