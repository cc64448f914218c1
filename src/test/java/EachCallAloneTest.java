/**
 * Each call that changes something changes that alone: done and undone by the same call, or by its counterpart, all is
 * as it was.
 */
public final class EachCallAloneTest extends Edges {
    private static final String[] OLD_FIGURES = {"12340", "10234", "01324", "43210", "20134", "01243"};
    private static final int OLD_LAME = 16, OLD_PLAYED = 2, OLD_LENT = 32;
    private static final int[] OLD_MUSICS = {3, 1, 2, 3, 3, 3};
    private static final int[] OLD_CALLERS = {13, 41};
    private static final int[] SOME_FIGURES = {0, 1, 2, 4, 8, 16, 32, 21, 42, 62, ALL_FIGURES};

    private static void undone(String edge, Call call) {
        unchangedBy(edge, () -> busy(""), call);
    }

    private static void sayAndWipe() {
        for (int many : new int[] {1, 29, 30, 31}) {
            undone("3, 4: " + many + " signs said and wiped", x -> {
                for (int i = 0; i < many; i++) {
                    x.say(33 + 3 * i);
                }
                return x.wipe();
            });
        }
    }

    private static void figure() {
        for (int f = 0; f < OLD_FIGURES.length; f++) {
            int told = f;
            for (String text : new String[] {"01234", "34012", OLD_FIGURES[f]}) {
                undone("6: FIGURE " + f + " told as " + text + " and as before", x -> {
                    give(x, told, text);
                    give(x, told, OLD_FIGURES[told]);
                    return 0;
                });
            }
        }
        Maker noneMayBe = () -> {
            RoundDance x = busy("");
            x.set(2, ALL_FIGURES);
            return x;
        };
        unchangedBy("6: a FIGURE that MAY not be told as before", noneMayBe, x -> write(x, OLD_FIGURES[0]).figure(0));
        due("6: a FIGURE that MAY not be is told", 1, write(noneMayBe.make(), "34012").figure(0));
    }

    private static void set() {
        for (int lame = 0; lame < 32; lame++) {
            int v = lame;
            undone("8: LAME " + v + " and as before", x -> x.set(0, v) + x.set(0, OLD_LAME));
        }
        undone("8: MUSIC 1 played and as before", x -> x.set(1, 1) + x.set(1, OLD_PLAYED));
        for (int v : SOME_FIGURES) {
            undone("8: LENT " + v + " and as before", x -> x.set(2, v) + x.set(2, OLD_LENT));
        }
    }

    private static void music() {
        for (int f = 0; f < OLD_MUSICS.length; f++) {
            for (int v = 1; v <= 3; v++) {
                int figure = f;
                int other = v;
                undone("9: MUSIC " + v + " of FIGURE " + f + " and as before",
                        x -> x.music(figure, other) + x.music(figure, OLD_MUSICS[figure]));
            }
        }
    }

    private static void dance() {
        for (String row : new String[] {"A", "C", "D", "EA", "ACDE", times("AD", 10)}) {
            int length = write(busy(""), row).length();
            undone("11: '" + row + "' danced till all is as it was", x -> {
                for (int i = 0; i < length; i++) {
                    danceRow(x, row);
                }
                return 0;
            });
        }
    }

    private static RoundDance atHome() {
        RoundDance x = busy("");
        x.home();
        return x;
    }

    private static void home() {
        for (String row : new String[] {"", "A", "CD", times("E", 20)}) {
            unchangedBy("12: '" + row + "' danced and home", () -> atHome(), x -> {
                danceRow(x, row);
                return x.home();
            });
        }
    }

    /** As many PLACES as may be, of whose GOODS as many are away as can be, where nothing else is as at first. */
    private static RoundDance settled(int n) {
        RoundDance x = market(n, round(n), exchange(n), downTo('0', n));
        x.image(0);
        x.set(1, 2);
        x.music(3, 1);
        x.set(2, 48);
        x.caller(0, 7);
        x.caller(1, 56);
        x.want(n - 1, 0);
        x.seen(1, 0, 1);
        x.wish(1, 2, 33);
        x.image(1);
        return x;
    }

    private static void homeFromAll() {
        for (int n = 3; n <= 8; n++) {
            int places = n;
            for (String row : new String[] {"A", "B", "C", "AB", "BC"}) {
                unchangedBy("12: '" + row + "' of " + n + " danced and home", () -> settled(places), x -> {
                    danceRow(x, row);
                    return x.home();
                });
            }
        }
    }

    private static void want() {
        for (int place : new int[] {1, 2, 3, 4, -1}) {
            undone("16: GOOD 0 wanted at " + place + " and as before", x -> x.want(0, place) + x.want(0, 3));
        }
        for (int place : new int[] {1, 2, 4}) {
            undone("16: GOOD 1 wanted at " + place + " and no more", x -> x.want(1, place) + x.want(1, -1));
            undone("16: GOOD 4 wanted at " + place + " and no more", x -> x.want(4, place) + x.want(4, -1));
        }
        undone("16: two change PLACES and change again", x -> x.want(0, -1) + x.want(2, 3) + x.want(0, 0)
                + x.want(2, -1) + x.want(0, 3) + x.want(2, 0));
    }

    private static void caller() {
        for (int c = 0; c < OLD_CALLERS.length; c++) {
            int caller = c;
            for (int v : SOME_FIGURES) {
                undone("21: CALLER " + c + " has " + v + " and as before",
                        x -> x.caller(caller, v) + x.caller(caller, OLD_CALLERS[caller]));
            }
        }
    }

    private static RoundDance withWishesAlone() {
        RoundDance x = busy("");
        x.forget();
        return x;
    }

    private static RoundDance withSightsAlone() {
        RoundDance x = busy("");
        x.drop();
        return x;
    }

    private static void notes() {
        for (int many : new int[] {1, 5, 6, 7}) {
            unchangedBy("23, 24: " + many + " SIGHTS seen and forgotten", () -> withWishesAlone(), x -> {
                for (int i = 0; i < many; i++) {
                    x.seen(2 * i, i % 5, 4 - i % 5);
                }
                return x.forget();
            });
            unchangedBy("27, 28: " + many + " WISHES wished and dropped", () -> withSightsAlone(), x -> {
                for (int i = 0; i < many; i++) {
                    x.wish(i % 5, 4 - i % 5, 99 - i);
                }
                return x.drop();
            });
        }
    }

    private static void images() {
        for (int n = 0; n < 2; n++) {
            int kept = n;
            Maker maker = () -> {
                RoundDance x = busy("DAD");
                x.image(kept);
                return x;
            };
            unchangedBy("31: IMAGE " + n + " kept once more", maker, x -> x.image(kept));
            unchangedBy("32: IMAGE " + n + " restored at once", maker, x -> x.restore(kept));
            unchangedBy("2, 32: other PLACES, and IMAGE " + n + " restored", maker,
                    x -> x.places(3) + x.places(8) + x.restore(kept));
            unchangedBy("32: IMAGE " + n + " restored twice", maker, x -> x.restore(kept) + x.restore(kept));
        }
    }

    /** Rounds of all calls that change something, as many as an object is used for: the last is as the first. */
    private static void allCallsAnObjectAnswers() {
        RoundDance x = new RoundDance();
        int calls = 0;
        int[] first = null;
        for (int round = 1; calls + 32 <= 511; round++) {
            int[] answers = {
                x.places(3), x.say('1'), x.say('2'), x.say('0'), x.figure(0), x.say('A'), x.judge(), x.length(),
                x.dance(), x.where(0, 0), x.home(), x.set(0, 4), x.sign(0), x.goes(0, 1, 1), x.set(0, 0),
                x.want(0, 2), x.fewest(-1), x.standings(), x.sure(0), x.want(0, -1), x.forced(0, 1),
                x.seen(2, 0, 2), (int) x.rows(2), x.came(2, 0, 1), x.forget(), x.wish(0, 1, 5), x.served(1, -1),
                x.drop(), x.night(7, 9, 0, 0), x.image(0), x.restore(0), x.places(8)};
            calls += answers.length;
            first = first == null ? answers : first;
            for (int i = 1; i < answers.length; i++) {
                due("1: round " + round + " of all calls, the " + i + "th", first[i], answers[i]);
            }
        }
        int[] due = {8, 1, 2, 3, 1, 1, NONE, 3, 1, 1, 3, 0, 0, 0, 4, NONE, 2, 3, 7, 2, 1, 1, 1, 1, 1, 1, 5, 1, 7, 1, 1, 3};
        for (int i = 0; i < due.length; i++) {
            due("1: the first round of all calls, the " + i + "th", due[i], first[i]);
        }
        for (; calls < 511; calls++) {
            x.standings();
        }
        due("1: the 512th call", 6, x.music(5, 3) + 3);
    }

    // ---- the same call as often as an object is used

    private static void placesOften() {
        RoundDance x = new RoundDance();
        int before = 8;
        for (int call = 1; call <= 511; call++) {
            int n = 3 + call * 5 % 6;
            due("2: the " + call + "th time", before, x.places(n));
            before = n;
        }
        due("2: told behind 511 times", before, x.told(1));
    }

    private static void figuresOften() {
        String[] texts = {"120", "201", "021", "102", "210"};
        RoundDance x = market(3);
        for (int round = 0; round < 80; round++) {
            String text = texts[round % 5];
            give(x, round % 6, text);
            due("6: the " + round + "th time", text.charAt(2) - '0', x.goes(round % 6, 2, 0));
        }
    }

    private static void musicOften() {
        RoundDance x = new RoundDance();
        int[] before = {3, 3, 3, 3, 3, 3};
        for (int call = 0; call < 505; call++) {
            int f = call * 5 % 6;
            int v = 1 + call * 7 % 11 % 3;
            due("9: the " + call + "th time", before[f], x.music(f, v));
            before[f] = v;
        }
        for (int f = 0; f < 6; f++) {
            due("33: MUSIC behind 505 times, FIGURE " + f, before[f], x.told(10 + f));
        }
    }

    private static void dancesOften() {
        RoundDance x = market(7, round(7));
        for (int round = 1; round <= 120; round++) {
            danceRow(x, "A");
            due("11: the " + round + "th time", round % 7, x.where(0, 0));
        }
        RoundDance y = market(7, round(7));
        for (int round = 1; round <= 120; round++) {
            danceRow(y, "A");
            due("12: the " + round + "th time", 7, y.home());
        }
    }

    private static void notesOften() {
        RoundDance x = market(5, round(5));
        for (int round = 0; round < 120; round++) {
            due("23: the " + round + "th time", 1, x.seen(0, round % 5, round % 3));
            due("25: the " + round + "th time", round % 5 == round % 3 ? 1 : 0, x.rows(0));
            due("24: the " + round + "th time", 1, x.forget());
        }
        RoundDance y = market(5, round(5));
        for (int round = 0; round < 120; round++) {
            due("16: the " + round + "th time", NONE, y.want(round % 5, round % 3));
            due("17: the " + round + "th time", (round % 3 - round % 5 + 5) % 5, y.fewest(-1));
            due("16: the " + round + "th time, no more", round % 3, y.want(round % 5, -1));
        }
    }

    private static void imagesOften() {
        RoundDance x = market(6, round(6));
        x.image(0);
        for (int round = 1; round <= 63; round++) {
            int n = round % 2;
            x.set(0, round);
            due("31: the " + round + "th time", 1, x.image(n));
            x.set(0, 0);
            due("32: the " + round + "th time, the other one", 1, x.restore(1 - n));
            due("32: the " + round + "th time, the one ahead of it", round - 1, x.told(2));
            due("32: the " + round + "th time", 1, x.restore(n));
            due("32: the " + round + "th time, as it was", round, x.told(2));
        }
    }

    private static void nothingIsUsedUp() {
        placesOften();
        figuresOften();
        musicOften();
        dancesOften();
        notesOften();
        imagesOften();
        allCallsAnObjectAnswers();
    }

    public static void main(String[] args) {
        sayAndWipe();
        figure();
        set();
        music();
        dance();
        home();
        homeFromAll();
        want();
        caller();
        notes();
        images();
        nothingIsUsedUp();
        end("EachCallAloneTest");
    }
}
