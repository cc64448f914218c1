/** Each promise of the document by itself: ordinary calls, the edges that it names, and each refusal. */
public final class PromisesTest {
    private static final int UNKNOWN = -1, OUTSIDE = -2, STATE = -3, FULL = -4, NO = -5, NONE = -6;
    private static int wrong = 0;
    private static int asked = 0;

    private static void due(String call, long want, long got) {
        asked++;
        if (got != want) {
            wrong++;
            System.out.println(call + " answered " + got + ", due is " + want);
        }
    }

    private static void write(RoundDance x, String text) {
        x.wipe();
        for (int i = 0; i < text.length(); i++) {
            due("say of " + text, i + 1, x.say(text.charAt(i)));
        }
    }

    private static void give(RoundDance x, int figure, String text) {
        write(x, text);
        due("figure(" + figure + ") of " + text, 1, x.figure(figure));
    }

    private static RoundDance market(int n, String... figures) {
        RoundDance x = new RoundDance();
        x.places(n);
        for (int f = 0; f < figures.length; f++) {
            give(x, f, figures[f]);
        }
        return x;
    }

    private static void lie(RoundDance x, String name, int... placesOfGoods) {
        for (int k = 0; k < placesOfGoods.length; k++) {
            due(name + ": GOOD " + k, placesOfGoods[k], x.where(k, 0));
        }
    }

    private static void constants() {
        due("UNKNOWN", -1, RoundDance.UNKNOWN);
        due("OUTSIDE", -2, RoundDance.OUTSIDE);
        due("STATE", -3, RoundDance.STATE);
        due("FULL", -4, RoundDance.FULL);
        due("NO", -5, RoundDance.NO);
        due("NONE", -6, RoundDance.NONE);
    }

    private static void promise1ANewObject() {
        RoundDance x = new RoundDance();
        due("1 told(0)", 0, x.told(0));
        due("1 told(1)", 8, x.told(1));
        due("1 told(2)", 0, x.told(2));
        due("1 told(3)", 1, x.told(3));
        due("1 told(4)", 0, x.told(4));
        due("1 told(5)", 0, x.told(5));
        due("1 told(6)", 0, x.told(6));
        for (int f = 0; f < 6; f++) {
            due("1 music", 3, x.told(10 + f));
            for (int p = 0; p < 8; p++) {
                due("1 goes", p, x.goes(f, p, 0));
                due("1 goes", p, x.goes(f, p, 1));
            }
        }
        due("1 caller 0", 63, x.told(20));
        due("1 caller 1", 63, x.told(21));
        for (int k = 0; k < 8; k++) {
            due("1 told(30)", k, x.told(30 + k));
            due("1 told(40)", NONE, x.told(40 + k));
        }
        due("1 restore(0)", STATE, x.restore(0));
        due("1 restore(1)", STATE, x.restore(1));
    }

    private static void promise2Places() {
        RoundDance x = market(4, "1230");
        due("2 places(2)", OUTSIDE, x.places(2));
        due("2 places(9)", OUTSIDE, x.places(9));
        due("2 places(min)", OUTSIDE, x.places(Integer.MIN_VALUE));
        due("2 kept", 4, x.told(1));
        due("2 kept", 1, x.goes(0, 0, 0));
        write(x, "A");
        x.dance();
        x.set(0, 3);
        x.set(1, 2);
        x.set(2, 5);
        x.music(3, 2);
        x.caller(0, 7);
        x.want(0, 2);
        x.seen(1, 1, 1);
        x.wish(1, 1, 1);
        write(x, "xy");
        due("2 places(3)", 4, x.places(3));
        due("2 PLACES", 3, x.told(1));
        due("2 FIGURE", 0, x.goes(0, 0, 0));
        due("2 LAME", 0, x.told(2));
        due("2 WANTS", NONE, x.told(40));
        due("2 SIGHTS", 0, x.told(5));
        due("2 WISHES", 0, x.told(6));
        lie(x, "2", 0, 1, 2);
        due("2 music played stays", 2, x.told(3));
        due("2 LENT stays", 5, x.told(4));
        due("2 MUSIC stays", 2, x.told(13));
        due("2 caller stays", 7, x.told(20));
        due("2 PAD stays", 2, x.told(0));
        due("2 places(8)", 3, x.places(8));
        give(x, 0, "10234567");
        due("2 places(8)", 8, x.places(8));
        due("2 as at first, though as many", 0, x.goes(0, 0, 0));
    }

    private static void promise3Say() {
        RoundDance x = new RoundDance();
        due("3 say(32)", OUTSIDE, x.say(32));
        due("3 say(127)", OUTSIDE, x.say(127));
        due("3 say(-1)", OUTSIDE, x.say(-1));
        due("3 say(33)", 1, x.say(33));
        due("3 say(126)", 2, x.say(126));
        for (int i = 3; i <= 30; i++) {
            due("3 say", i, x.say(60));
        }
        due("3 say 31", FULL, x.say(60));
        due("3 OUTSIDE ahead of FULL", OUTSIDE, x.say(32));
        due("3 told(0)", 30, x.told(0));
    }

    private static void promise4Wipe() {
        RoundDance x = new RoundDance();
        due("4 wipe", 0, x.wipe());
        write(x, "12");
        due("4 wipe", 2, x.wipe());
        due("4 wipe again", 0, x.wipe());
        due("4 say", 1, x.say(50));
    }

    private static int faultOf(RoundDance x, String text, int how) {
        write(x, text);
        return x.fault(how);
    }

    private static void promise5Fault() {
        RoundDance x = market(4);
        due("5 figure whole", NONE, faultOf(x, "3120", 0));
        due("5 figure empty", 0, faultOf(x, "", 0));
        due("5 figure short", 3, faultOf(x, "312", 0));
        due("5 figure long", 4, faultOf(x, "31200", 0));
        due("5 figure twice", 2, faultOf(x, "3130", 0));
        due("5 figure no place", 1, faultOf(x, "3410", 0));
        due("5 figure below a digit", 1, faultOf(x, "3/10", 0));
        due("5 figure letter", 0, faultOf(x, "a120", 0));
        due("5 row empty", NONE, faultOf(x, "", 1));
        due("5 row", NONE, faultOf(x, "ABCDEF", 1));
        due("5 row G", 2, faultOf(x, "ABG", 1));
        due("5 row @", 0, faultOf(x, "@", 1));
        due("5 row a", 1, faultOf(x, "Aa", 1));
        due("5 row 20", NONE, faultOf(x, "AAAAAAAAAAAAAAAAAAAA", 1));
        due("5 row 21", 20, faultOf(x, "AAAAAAAAAAAAAAAAAAAAA", 1));
        due("5 standing whole", NONE, faultOf(x, "dcba", 2));
        due("5 standing empty", 0, faultOf(x, "", 2));
        due("5 standing short", 2, faultOf(x, "dc", 2));
        due("5 standing long", 4, faultOf(x, "dcbae", 2));
        due("5 standing twice", 2, faultOf(x, "dcda", 2));
        due("5 standing e", 0, faultOf(x, "ecba", 2));
        due("5 standing `", 1, faultOf(x, "a`bc", 2));
        due("5 standing A", 0, faultOf(x, "Abcd", 2));
        due("5 how -1", OUTSIDE, x.fault(-1));
        due("5 how 3", OUTSIDE, x.fault(3));
        due("5 PAD stays", 4, x.told(0));
    }

    private static void promise6Figure() {
        RoundDance x = market(4);
        write(x, "1230");
        due("6 figure(-1)", UNKNOWN, x.figure(-1));
        due("6 figure(6)", UNKNOWN, x.figure(6));
        due("6 figure(5)", 1, x.figure(5));
        due("6 empty PAD", 0, x.told(0));
        due("6 no digits", NO, x.figure(5));
        write(x, "123");
        due("6 too short", NO, x.figure(5));
        due("6 UNKNOWN ahead of NO", UNKNOWN, x.figure(6));
        due("6 PAD stays", 3, x.told(0));
        due("6 as it was", 1, x.goes(5, 0, 0));
        due("6 others", 0, x.goes(4, 0, 0));
        give(x, 5, "3012");
        due("6 over", 3, x.goes(5, 0, 0));
    }

    private static void promise7Goes() {
        RoundDance x = market(5, "12340", "10234");
        x.set(0, 2 | 4);
        due("7 as told", 1, x.goes(0, 0, 0));
        due("7 past two LAME", 3, x.goes(0, 0, 1));
        due("7 a LAME one keeps", 1, x.goes(0, 1, 1));
        due("7 a LAME one keeps", 2, x.goes(0, 2, 1));
        due("7 on", 4, x.goes(0, 3, 1));
        due("7 on", 0, x.goes(0, 4, 1));
        due("7 all that follow are LAME", 0, x.goes(1, 0, 1));
        due("7 as told", 0, x.goes(1, 1, 0));
        due("7 figure -1", UNKNOWN, x.goes(-1, 0, 0));
        due("7 figure 6", UNKNOWN, x.goes(6, 0, 0));
        due("7 place -1", UNKNOWN, x.goes(0, -1, 0));
        due("7 place 5", UNKNOWN, x.goes(0, 5, 0));
        due("7 danced 2", OUTSIDE, x.goes(0, 0, 2));
        due("7 danced -1", OUTSIDE, x.goes(0, 0, -1));
        due("7 UNKNOWN ahead of OUTSIDE", UNKNOWN, x.goes(0, 5, 2));
    }

    private static void promise8Set() {
        RoundDance x = market(3);
        due("8 LAME", 0, x.set(0, 7));
        due("8 LAME", 7, x.set(0, 5));
        due("8 LAME 8", OUTSIDE, x.set(0, 8));
        due("8 LAME -1", OUTSIDE, x.set(0, -1));
        due("8 LAME stays", 5, x.told(2));
        due("8 MUSIC", 1, x.set(1, 2));
        due("8 MUSIC", 2, x.set(1, 1));
        due("8 MUSIC 0", OUTSIDE, x.set(1, 0));
        due("8 MUSIC 3", OUTSIDE, x.set(1, 3));
        due("8 LENT", 0, x.set(2, 63));
        due("8 LENT", 63, x.set(2, 1));
        due("8 LENT 64", OUTSIDE, x.set(2, 64));
        due("8 LENT -1", OUTSIDE, x.set(2, -1));
        due("8 LENT stays", 1, x.told(4));
        due("8 which -1", OUTSIDE, x.set(-1, 1));
        due("8 which 3", OUTSIDE, x.set(3, 1));
        x.places(8);
        due("8 LAME 255", 0, x.set(0, 255));
        due("8 LAME 256", OUTSIDE, x.set(0, 256));
    }

    private static void promise9Music() {
        RoundDance x = market(3, "120");
        due("9 music", 3, x.music(0, 1));
        due("9 music", 1, x.music(0, 2));
        due("9 music", 2, x.music(0, 3));
        due("9 music 0", OUTSIDE, x.music(0, 0));
        due("9 music 4", OUTSIDE, x.music(0, 4));
        due("9 figure -1", UNKNOWN, x.music(-1, 1));
        due("9 figure 6", UNKNOWN, x.music(6, 9));
        due("9 others", 3, x.told(11));
        write(x, "A");
        x.music(0, 2);
        due("9 other music", 0, x.judge());
        x.set(1, 2);
        due("9 its music", NONE, x.judge());
        x.music(0, 1);
        due("9 other music", 0, x.judge());
        x.set(1, 1);
        due("9 its music", NONE, x.judge());
        x.music(0, 3);
        x.set(1, 2);
        due("9 both", NONE, x.judge());
    }

    private static void promise10Judge() {
        RoundDance x = market(3);
        due("10 empty", NONE, x.judge());
        write(x, "ABCF");
        due("10 all may", NONE, x.judge());
        x.set(2, 4 | 32);
        due("10 LENT", 2, x.judge());
        x.music(1, 2);
        due("10 music", 1, x.judge());
        write(x, "ABG");
        due("10 fault", NO, x.judge());
        due("10 PAD stays", 3, x.told(0));
    }

    private static void promise11Dance() {
        RoundDance x = market(4, "1230", "1023");
        due("11 empty", 0, x.dance());
        write(x, "AB");
        due("11 AB", 2, x.dance());
        due("11 PAD", 0, x.told(0));
        lie(x, "11 AB", 0, 2, 3, 1);
        write(x, "B");
        due("11 from where they are", 1, x.dance());
        lie(x, "11 ABB", 1, 2, 3, 0);
        x.set(0, 2);
        write(x, "A");
        due("11 with a LAME one", 1, x.dance());
        lie(x, "11 LAME", 1, 3, 0, 2);
        write(x, "AG");
        due("11 fault", NO, x.dance());
        due("11 PAD stays", 2, x.told(0));
        write(x, "AB");
        x.set(2, 2);
        due("11 LENT", NO, x.dance());
        due("11 PAD stays", 2, x.told(0));
        lie(x, "11 nothing is danced", 1, 3, 0, 2);
    }

    private static void promise12Home() {
        RoundDance x = market(4, "1023");
        due("12 at home", 0, x.home());
        write(x, "A");
        x.dance();
        due("12 two away", 2, x.home());
        lie(x, "12", 0, 1, 2, 3);
        due("12 again", 0, x.home());
    }

    private static void promise13Where() {
        RoundDance x = market(4, "1230");
        write(x, "A");
        x.dance();
        due("13 GOOD 0", 1, x.where(0, 0));
        due("13 GOOD 3", 0, x.where(3, 0));
        due("13 at PLACE 0", 3, x.where(0, 1));
        due("13 at PLACE 3", 2, x.where(3, 1));
        due("13 -1", UNKNOWN, x.where(-1, 0));
        due("13 4", UNKNOWN, x.where(4, 1));
        due("13 what 2", OUTSIDE, x.where(0, 2));
        due("13 what -1", OUTSIDE, x.where(0, -1));
        due("13 UNKNOWN first", UNKNOWN, x.where(4, 2));
    }

    private static void promise14Length() {
        RoundDance x = market(8, "12043567", "12045673");
        due("14 empty", 1, x.length());
        write(x, "A");
        due("14 six", 6, x.length());
        write(x, "B");
        due("14 fifteen", 15, x.length());
        write(x, "C");
        due("14 stays", 1, x.length());
        write(x, "B");
        x.set(2, 63);
        due("14 whether it may or not", 15, x.length());
        x.set(0, 1);
        due("14 with a LAME one", 10, x.length());
        due("14 PAD stays", 1, x.told(0));
        write(x, "B!");
        due("14 fault", NO, x.length());
    }

    private static void promise15Sign() {
        RoundDance x = market(4, "1230", "1203", "1032");
        due("15 four round", 0, x.sign(0));
        due("15 three round", 1, x.sign(1));
        due("15 two pairs", 1, x.sign(2));
        due("15 none", 1, x.sign(3));
        x.set(0, 1);
        due("15 with a LAME one", 1, x.sign(0));
        due("15 with a LAME one", 0, x.sign(1));
        x.set(2, 63);
        due("15 whether it may or not", 1, x.sign(0));
        due("15 -1", UNKNOWN, x.sign(-1));
        due("15 6", UNKNOWN, x.sign(6));
    }

    private static void promise16Want() {
        RoundDance x = market(3);
        due("16 first", NONE, x.want(0, 2));
        due("16 then", 2, x.want(0, 1));
        due("16 the same", 1, x.want(0, 1));
        due("16 another one", STATE, x.want(1, 1));
        due("16 elsewhere", NONE, x.want(1, 2));
        due("16 a later one", STATE, x.want(0, 2));
        due("16 not", 1, x.want(0, -1));
        due("16 not again", NONE, x.want(0, -1));
        due("16 free now", 2, x.want(1, 1));
        due("16 good -1", UNKNOWN, x.want(-1, 0));
        due("16 good 3", UNKNOWN, x.want(3, 0));
        due("16 place 3", UNKNOWN, x.want(0, 3));
        due("16 place -2", UNKNOWN, x.want(0, -2));
        due("16 told", 1, x.told(41));
    }

    private static void promise17Fewest() {
        RoundDance x = market(4, "1230", "3012", "1032");
        due("17 none wanted", 0, x.fewest(-1));
        due("17 none wanted", NONE, x.fewest(0));
        x.want(0, 2);
        due("17 two", 2, x.fewest(-1));
        due("17 first row", 65, x.fewest(0));
        due("17 first row", 65, x.fewest(1));
        due("17 no more", NONE, x.fewest(2));
        due("17 below", NONE, x.fewest(-2));
        x.want(3, 3);
        due("17 both at once", 2, x.fewest(-1));
        due("17 BC", 66, x.fewest(0));
        due("17 BC", 67, x.fewest(1));
        x.want(1, 0);
        due("17 all three", NONE, x.fewest(-1));
        due("17 all three", NONE, x.fewest(0));
        x.want(1, -1);
        x.set(2, 4);
        due("17 LENT", NONE, x.fewest(-1));
        x.want(3, -1);
        x.set(2, 1);
        due("17 B or C", 2, x.fewest(-1));
        due("17 BB", 66, x.fewest(0));
        x.want(0, 0);
        due("17 there", 0, x.fewest(-1));
        write(x, "B");
        x.dance();
        due("17 from where they are", 3, x.fewest(-1));
        due("17 BBB", 66, x.fewest(0));
        due("17 BBB", 66, x.fewest(2));
        x.set(0, 2);
        due("17 with a LAME one", 2, x.fewest(-1));
        x.want(0, 1);
        due("17 not to a LAME one", NONE, x.fewest(-1));
    }

    private static void promise17AllEightWanted() {
        RoundDance x = market(8, "12345670", "10234567");
        for (int k = 0; k < 8; k++) {
            x.want(k, 7 - k);
        }
        int figures = x.fewest(-1);
        due("17 it takes more than a ROW holds", 1, figures > 20 ? 1 : 0);
        int[] row = new int[Math.max(figures, 0)];
        for (int i = 0; i < row.length; i++) {
            row[i] = x.fewest(i);
        }
        for (int sign : row) {
            x.say(sign);
            due("17 dance", 1, x.dance());
        }
        lie(x, "17 all eight", 7, 6, 5, 4, 3, 2, 1, 0);
        due("17 they are", 0, x.fewest(-1));
    }

    private static void promise18Standings() {
        RoundDance x = market(8, "12345670", "10234567");
        due("18 all", 40320, x.standings());
        x.set(2, 2);
        due("18 round", 8, x.standings());
        x.set(2, 1);
        due("18 exchange", 2, x.standings());
        x.set(2, 3);
        due("18 this one", 1, x.standings());
        x.set(2, 0);
        x.music(1, 2);
        due("18 music", 8, x.standings());
        x.set(0, 128);
        due("18 with a LAME one", 7, x.standings());
        give(x, 2, "12034567");
        due("18 even", 2520, x.standings());
        RoundDance y = market(8, "10325476", "23016745", "45670123");
        due("18 pairs", 8, y.standings());
        write(y, "A");
        y.dance();
        due("18 from elsewhere, as many", 8, y.standings());
        due("18 some of the even and of the odd ones", 120, market(6, "123405", "013452").standings());
        due("18 a line of five", 20, market(5, "12340", "02413").standings());
        due("18 a line of seven", 42, market(7, "1234560", "0362514").standings());
        due("18 half of it", 21, market(7, "1234560", "0246135").standings());
        due("18 a line of seven and a far one", 336, market(8, "12345607", "03625147", "76325410").standings());
        due("18 half of it", 168, market(8, "12345607", "76325410").standings());
        due("18 two sides of four", 1152, market(8, "12304567", "10234567", "45670123").standings());
        due("18 four pairs", 384, market(8, "10234567", "23456701", "23014567").standings());
        due("18 a cube's corners, straight", 1344, market(8, "10325476", "02461357", "03214765").standings());
        due("18 eight round, and over", 16, market(8, "12345670", "76543210").standings());
    }

    private static void promise19CanBe() {
        RoundDance x = market(4, "1203");
        write(x, "abcd");
        due("19 this one", 1, x.canBe());
        write(x, "cabd");
        due("19 behind A", 1, x.canBe());
        due("19 PAD stays", 4, x.told(0));
        write(x, "bacd");
        due("19 odd", 0, x.canBe());
        write(x, "dbca");
        due("19 d stays", 0, x.canBe());
        write(x, "abc");
        due("19 short", NO, x.canBe());
        write(x, "abce");
        due("19 no such", NO, x.canBe());
        give(x, 1, "0132");
        write(x, "B");
        x.dance();
        x.set(2, 2);
        write(x, "abcd");
        due("19 not from where they are", 0, x.canBe());
        write(x, "bcda");
        due("19 place 3 keeps c", 0, x.canBe());
        write(x, "dabc");
        due("19 round", 1, x.canBe());
        write(x, "bdac");
        due("19 round", 1, x.canBe());
        x.set(2, 3);
        due("19 none may", 0, x.canBe());
    }

    private static void promise20Sure() {
        RoundDance x = market(5, "12034", "01243");
        due("20 three", 7, x.sure(0));
        due("20 two", 24, x.sure(4));
        write(x, "B");
        x.dance();
        due("20 from where it is", 24, x.sure(3));
        x.set(2, 2);
        due("20 LENT", 8, x.sure(4));
        x.set(0, 1);
        due("20 with a LAME one", 6, x.sure(1));
        due("20 LAME", 1, x.sure(0));
        RoundDance y = market(8, "70123456");
        due("20 all round", 255, y.sure(0));
        due("20 -1", UNKNOWN, x.sure(-1));
        due("20 5", UNKNOWN, x.sure(5));
    }

    private static void promise21Caller() {
        RoundDance x = new RoundDance();
        due("21 first", 63, x.caller(0, 0));
        due("21 then", 0, x.caller(0, 63));
        due("21 other", 63, x.caller(1, 5));
        due("21 told", 5, x.told(21));
        due("21 -1", UNKNOWN, x.caller(-1, 0));
        due("21 2", UNKNOWN, x.caller(2, 99));
        due("21 64", OUTSIDE, x.caller(0, 64));
        due("21 -1", OUTSIDE, x.caller(1, -1));
        due("21 stays", 63, x.told(20));
    }

    private static void promise22Forced() {
        RoundDance x = market(4, "1230", "3012", "0123");
        x.caller(0, 1);
        x.caller(1, 4);
        due("22 there", 0, x.forced(2, 2));
        due("22 one", 1, x.forced(0, 1));
        due("22 three", 3, x.forced(0, 2));
        due("22 five", 5, x.forced(0, 3));
        x.caller(1, 1);
        due("22 behind the other's", 2, x.forced(0, 2));
        x.caller(1, 2);
        due("22 not ever", NONE, x.forced(0, 2));
        x.caller(1, 3);
        due("22 whatever he does", NONE, x.forced(0, 2));
        x.set(2, 2);
        due("22 LENT", 2, x.forced(0, 2));
        x.set(2, 1);
        x.caller(1, 2);
        due("22 nothing counts", 2, x.forced(0, 3));
        due("22 and again", 4, x.forced(0, 2));
        x.caller(0, 3);
        x.set(2, 0);
        due("22 by the other's only", 2, x.forced(1, 3));
        x.caller(0, 0);
        x.caller(1, 1);
        due("22 he has none", 2, x.forced(0, 1));
        due("22 he has none", 6, x.forced(0, 3));
        x.caller(1, 0);
        due("22 none has", NONE, x.forced(0, 1));
        x.caller(0, 63);
        x.set(2, 7 | 56);
        due("22 none may", NONE, x.forced(0, 1));
        x.set(2, 0);
        write(x, "A");
        x.dance();
        due("22 from where it is", 0, x.forced(0, 1));
        due("22 from where it is", 1, x.forced(0, 2));
        x.set(0, 4);
        due("22 past a LAME one", 1, x.forced(0, 3));
        due("22 good -1", UNKNOWN, x.forced(-1, 0));
        due("22 good 4", UNKNOWN, x.forced(4, 0));
        due("22 place -1", UNKNOWN, x.forced(0, -1));
        due("22 place 4", UNKNOWN, x.forced(0, 4));
    }

    private static void promise22WorstCase() {
        RoundDance x = market(4, "1230", "3012", "1023", "0213");
        x.caller(0, 1);
        x.caller(1, 1 | 4);
        due("22 now by his, now by the other's", 5, x.forced(1, 0));
        due("22 now by his, now by the other's", 3, x.forced(1, 3));
        x.caller(1, 4 | 8);
        due("22 the worse of two", 5, x.forced(2, 1));
    }

    private static void promise23Seen() {
        RoundDance x = market(4);
        due("23 first", 1, x.seen(0, 0, 0));
        due("23 second", 2, x.seen(12, 3, 3));
        due("23 13", OUTSIDE, x.seen(13, 0, 0));
        due("23 -1", OUTSIDE, x.seen(-1, 0, 0));
        due("23 good", UNKNOWN, x.seen(0, 4, 0));
        due("23 place", UNKNOWN, x.seen(13, 0, 4));
        due("23 place -1", UNKNOWN, x.seen(0, 0, -1));
        for (int i = 3; i <= 6; i++) {
            due("23 more", i, x.seen(1, 1, 1));
        }
        due("23 FULL", FULL, x.seen(1, 1, 1));
        due("23 OUTSIDE ahead of FULL", OUTSIDE, x.seen(13, 1, 1));
        due("23 UNKNOWN ahead of FULL", UNKNOWN, x.seen(1, 4, 1));
        due("23 told", 6, x.told(5));
    }

    private static void promise24Forget() {
        RoundDance x = market(4);
        due("24 none", 0, x.forget());
        x.seen(0, 0, 1);
        due("24 none fits", 0, x.rows(0));
        due("24 one", 1, x.forget());
        due("24 all fit", 1, x.rows(0));
        due("24 told", 0, x.told(5));
        due("24 again", 1, x.seen(0, 0, 0));
    }

    private static void promise25Rows() {
        RoundDance x = market(4, "1230", "3012", "0123", "0123", "0123", "0123");
        due("25 all", 2176782336L, x.rows(12));
        due("25 none", 1, x.rows(0));
        x.set(2, 60);
        due("25 two may", 4096, x.rows(12));
        x.seen(2, 0, 0);
        due("25 behind more than m", 2, x.rows(1));
        due("25 AB, BA", 2, x.rows(2));
        x.seen(4, 0, 0);
        due("25 two sights", 4 + 0, x.rows(4));
        x.seen(4, 1, 2);
        due("25 they do not fit", 0, x.rows(4));
        due("25 not counted", 4, x.rows(3));
        x.forget();
        write(x, "A");
        x.dance();
        x.seen(0, 0, 0);
        due("25 from GOOD k at PLACE k", 1, x.rows(0));
        x.seen(1, 0, 2);
        due("25 none", 0, x.rows(1));
        x.set(0, 2);
        due("25 past a LAME one", 1, x.rows(1));
        x.set(2, 63);
        due("25 none may", 0, x.rows(3));
        due("25 none may", 1, x.rows(0));
        due("25 -1", OUTSIDE, x.rows(-1));
        due("25 13", OUTSIDE, x.rows(13));
    }

    private static void promise26Came() {
        RoundDance x = market(4, "0123", "1230", "3012");
        x.set(2, 56);
        x.seen(3, 0, 2);
        due("26 rows", 6, x.rows(3));
        due("26 first", 65, x.came(3, 0, 0));
        due("26 first", 66, x.came(3, 1, 0));
        due("26 first", 66, x.came(3, 2, 0));
        due("26 all", 7, x.came(3, 0, 1));
        x.seen(1, 0, 1);
        due("26 BAB", 66, x.came(3, 0, 0));
        due("26 BAB", 65, x.came(3, 1, 0));
        due("26 BAB", 66, x.came(3, 2, 0));
        due("26 B", 2, x.came(3, 0, 1));
        due("26 A, B", 3, x.came(3, 1, 1));
        due("26 A, B", 3, x.came(3, 2, 1));
        due("26 the end is free", 7, x.came(2, 1, 1));
        x.seen(3, 1, 2);
        due("26 none", NONE, x.came(3, 0, 0));
        due("26 none", NONE, x.came(3, 0, 1));
        due("26 i -1", OUTSIDE, x.came(3, -1, 0));
        due("26 i 3", OUTSIDE, x.came(3, 3, 0));
        due("26 m 0", OUTSIDE, x.came(0, 0, 0));
        due("26 m 13", OUTSIDE, x.came(13, 0, 0));
        due("26 m -1", OUTSIDE, x.came(-1, 0, 0));
        due("26 what 2", OUTSIDE, x.came(3, 0, 2));
        due("26 what -1", OUTSIDE, x.came(3, 0, -1));
    }

    private static void promise27Wish() {
        RoundDance x = market(4);
        due("27 first", 1, x.wish(0, 0, 1));
        due("27 second", 2, x.wish(3, 3, 99));
        due("27 worth 0", OUTSIDE, x.wish(0, 0, 0));
        due("27 worth 100", OUTSIDE, x.wish(0, 0, 100));
        due("27 good", UNKNOWN, x.wish(4, 0, 0));
        due("27 good -1", UNKNOWN, x.wish(-1, 0, 1));
        due("27 place", UNKNOWN, x.wish(0, 4, 1));
        due("27 place -1", UNKNOWN, x.wish(0, -1, 100));
        for (int i = 3; i <= 6; i++) {
            due("27 more", i, x.wish(0, 0, 5));
        }
        due("27 FULL", FULL, x.wish(0, 0, 5));
        due("27 OUTSIDE ahead of FULL", OUTSIDE, x.wish(0, 0, 0));
        due("27 worth all", 120, x.served(0, -1));
        due("27 told", 6, x.told(6));
    }

    private static void promise28Drop() {
        RoundDance x = market(4);
        due("28 none", 0, x.drop());
        x.wish(0, 0, 9);
        due("28 served", 9, x.served(0, -1));
        due("28 one", 1, x.drop());
        due("28 nothing", 0, x.served(0, -1));
        due("28 told", 0, x.told(6));
        due("28 again", 1, x.wish(0, 0, 9));
    }

    private static void promise29Served() {
        RoundDance x = market(4, "0123", "1230", "3012");
        due("29 no wish", 0, x.served(3, -1));
        due("29 first row", 65, x.served(3, 0));
        x.wish(0, 1, 10);
        x.wish(0, 3, 11);
        due("29 ahead of it", 0, x.served(0, -1));
        due("29 no figure", NONE, x.served(0, 0));
        due("29 one", 11, x.served(1, -1));
        due("29 C", 67, x.served(1, 0));
        due("29 two", 11, x.served(2, -1));
        due("29 AC", 65, x.served(2, 0));
        due("29 AC", 67, x.served(2, 1));
        due("29 three", 21, x.served(3, -1));
        due("29 BBB", 66, x.served(3, 0));
        due("29 BBB", 66, x.served(3, 2));
        due("29 four", 65, x.served(4, 0));
        due("29 not so many", NONE, x.served(3, 3));
        due("29 below", NONE, x.served(3, -2));
        write(x, "B");
        x.dance();
        due("29 from where all is", 10, x.served(0, -1));
        due("29 from where all is", 21, x.served(2, -1));
        x.set(2, 2);
        due("29 LENT", 67, x.served(2, 0));
        x.set(2, 63);
        due("29 none may", NONE, x.served(1, -1));
        due("29 none may", NONE, x.served(1, 0));
        due("29 none is asked", 10, x.served(0, -1));
        due("29 m 7", OUTSIDE, x.served(7, -1));
        due("29 m -1", OUTSIDE, x.served(-1, -1));
    }

    private static void promise30Night() {
        RoundDance x = market(4, "1230", "3012");
        x.set(2, 60);
        // 0 becomes 74 (A), 74 becomes 5624 (A), 5624 becomes 28652 (A)
        due("30 one", 3, x.night(0, 1, 0, 0));
        due("30 three", 15, x.night(0, 3, 0, 0));
        due("30 three", 3, x.night(0, 3, 0, 1));
        // 1 becomes 149 (B)
        due("30 B", 3, x.night(1, 1, 0, 1));
        due("30 B", 9, x.night(1, 1, 0, 0));
        x.set(2, 61);
        due("30 B alone", 2, x.night(0, 2, 0, 1));
        x.set(2, 63);
        due("30 none may", 1, x.night(0, 99, 0, 0));
        x.set(2, 62);
        write(x, "A");
        x.dance();
        due("30 from where it is", 6, x.night(0, 1, 0, 0));
        due("30 nothing is danced", 1, x.where(0, 0));
        x.set(0, 4);
        due("30 past a LAME one", 3, x.night(0, 1, 0, 1));
        due("30 good", UNKNOWN, x.night(10000, 0, 4, 0));
        due("30 good -1", UNKNOWN, x.night(0, 0, -1, 0));
        due("30 seed", OUTSIDE, x.night(10000, 0, 0, 0));
        due("30 seed -1", OUTSIDE, x.night(-1, 0, 0, 0));
        due("30 m", OUTSIDE, x.night(0, 100, 0, 0));
        due("30 m -1", OUTSIDE, x.night(0, -1, 0, 0));
        due("30 what", OUTSIDE, x.night(0, 0, 0, 2));
        due("30 what -1", OUTSIDE, x.night(0, 0, 0, -1));
        RoundDance y = market(8, "12345670");
        y.set(2, 2);
        due("30 of five", 5, y.night(9999, 99, 0, 1));
        y.set(2, 0);
        due("30 of six the first alone goes on", 7, y.night(9999, 99, 0, 1));
    }

    private static RoundDance filled() {
        RoundDance x = market(5, "12340");
        write(x, "A");
        x.dance();
        x.set(0, 2);
        x.set(1, 2);
        x.set(2, 8);
        x.music(4, 1);
        x.caller(0, 6);
        x.caller(1, 9);
        x.want(1, 2);
        x.seen(1, 0, 2);
        x.wish(0, 1, 7);
        return x;
    }

    private static void unsettle(RoundDance x) {
        x.places(6);
        x.set(1, 1);
        x.set(2, 0);
        x.music(4, 3);
        x.caller(0, 63);
        x.caller(1, 63);
        write(x, "501234");
    }

    private static void promise31And32Images() {
        RoundDance x = filled();
        due("32 not kept", STATE, x.restore(0));
        due("31 image(1)", 1, x.image(1));
        due("32 the other one", STATE, x.restore(0));
        unsettle(x);
        due("31 image(0)", 1, x.image(0));
        due("32 restore(1)", 1, x.restore(1));
        due("32 PAD is not of it", 6, x.told(0));
        due("32 PLACES", 5, x.told(1));
        due("32 LAME", 2, x.told(2));
        due("32 MUSIC", 2, x.told(3));
        due("32 LENT", 8, x.told(4));
        due("32 SIGHTS", 1, x.told(5));
        due("32 WISHES", 1, x.told(6));
        due("32 MUSIC of E", 1, x.told(14));
        due("32 CALLER 0", 6, x.told(20));
        due("32 CALLER 1", 9, x.told(21));
        lie(x, "32", 1, 2, 3, 4, 0);
        due("32 WANT", 2, x.told(41));
        due("32 FIGURE", 1, x.goes(0, 0, 0));
        due("32 the SIGHT itself", 1, x.rows(0));
        due("32 the WISH itself", 7, x.served(0, -1));
        x.set(0, 0);
        x.want(1, -1);
        x.forget();
        x.drop();
        x.home();
        x.wish(2, 2, 8);
        x.seen(0, 1, 2);
        due("32 again", 1, x.restore(1));
        due("32 the WISH itself again", 7, x.served(0, -1));
        due("32 the SIGHT itself again", 1, x.rows(0));
        due("32 LAME again", 2, x.told(2));
        due("32 WANT again", 2, x.told(41));
        due("32 SIGHTS again", 1, x.told(5));
        due("32 WISHES again", 1, x.told(6));
        lie(x, "32 again", 1, 2, 3, 4, 0);
        due("32 restore(0)", 1, x.restore(0));
        due("32 PLACES of 0", 6, x.told(1));
        due("31 over", 1, x.image(1));
        due("32 restore(1)", 1, x.restore(1));
        due("32 the newer", 6, x.told(1));
        due("31 -1", OUTSIDE, x.image(-1));
        due("31 2", OUTSIDE, x.image(2));
        due("32 -1", OUTSIDE, x.restore(-1));
        due("32 2", OUTSIDE, x.restore(2));
    }

    private static void promise33Told() {
        RoundDance x = filled();
        write(x, "abc");
        due("33 signs", 3, x.told(0));
        due("33 PLACES", 5, x.told(1));
        due("33 LAME", 2, x.told(2));
        due("33 MUSIC", 2, x.told(3));
        due("33 LENT", 8, x.told(4));
        due("33 SIGHTS", 1, x.told(5));
        due("33 WISHES", 1, x.told(6));
        due("33 A", 3, x.told(10));
        due("33 E", 1, x.told(14));
        due("33 F", 3, x.told(15));
        due("33 CALLER 0", 6, x.told(20));
        due("33 CALLER 1", 9, x.told(21));
        due("33 GOOD 0", 1, x.told(30));
        due("33 GOOD 4", 0, x.told(34));
        due("33 wanted", 2, x.told(41));
        due("33 not wanted", NONE, x.told(44));
        int[] none = {-1, 7, 9, 16, 19, 22, 29, 35, 39, 45, 48, 50, Integer.MAX_VALUE, Integer.MIN_VALUE};
        for (int what : none) {
            due("33 told(" + what + ")", OUTSIDE, x.told(what));
        }
    }

    /** The same dear calls behind each thing that they hang on: none may answer as before. */
    private static void answersAreOfNow() {
        RoundDance x = market(4, "1230");
        x.want(0, 1);
        x.wish(0, 1, 5);
        x.seen(1, 0, 1);
        now(x, "A", 1, 1, 5);
        x.set(2, 1);
        now(x, "LENT", NONE, 0, 0);
        x.set(2, 0);
        x.set(0, 2);
        now(x, "LAME", NONE, 0, 0);
        x.set(0, 0);
        x.set(1, 2);
        x.music(0, 1);
        now(x, "MUSIC", NONE, 0, 0);
        x.set(1, 1);
        now(x, "MUSIC again", 1, 1, 5);
        x.image(0);
        give(x, 0, "2301");
        now(x, "another A", NONE, 0, 0);
        x.restore(0);
        write(x, "A");
        x.dance();
        now(x, "DANCED", 0, 1, 5);
        write(x, "A");
        x.dance();
        now(x, "DANCED twice", 3, 1, 0);
        x.home();
        now(x, "at home", 1, 1, 5);
        x.want(0, -1);
        x.want(1, 1);
        x.drop();
        x.wish(1, 1, 6);
        x.forget();
        x.seen(1, 1, 1);
        now(x, "GOOD 1", 0, 5, 6);
        x.want(1, 3);
        x.drop();
        x.wish(1, 3, 6);
        x.forget();
        x.seen(1, 1, 3);
        now(x, "PLACE 3", 2, 0, 0);
        x.restore(0);
        now(x, "restored", 1, 1, 5);
        x.places(4);
        now(x, "as at first", 0, 6, 0);
    }

    private static void now(RoundDance x, String behind, int fewest, long rows, int served) {
        due("fewest behind " + behind, fewest, x.fewest(-1));
        due("rows behind " + behind, rows, x.rows(1));
        due("served behind " + behind, served, x.served(1, -1));
    }

    public static void main(String[] args) {
        constants();
        promise1ANewObject();
        promise2Places();
        promise3Say();
        promise4Wipe();
        promise5Fault();
        promise6Figure();
        promise7Goes();
        promise8Set();
        promise9Music();
        promise10Judge();
        promise11Dance();
        promise12Home();
        promise13Where();
        promise14Length();
        promise15Sign();
        promise16Want();
        promise17Fewest();
        promise17AllEightWanted();
        promise18Standings();
        promise19CanBe();
        promise20Sure();
        promise21Caller();
        promise22Forced();
        promise22WorstCase();
        promise23Seen();
        promise24Forget();
        promise25Rows();
        promise26Came();
        promise27Wish();
        promise28Drop();
        promise29Served();
        promise30Night();
        promise31And32Images();
        promise33Told();
        answersAreOfNow();
        System.out.println("PromisesTest: " + asked + " answers, " + wrong + " wrong");
        if (wrong != 0) {
            System.exit(1);
        }
    }
}
