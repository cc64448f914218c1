/** A market at which goods change hands by round dances alone. README.md tells how to use it. */
public final class RoundDance {
    public static final int UNKNOWN = -1, OUTSIDE = -2, STATE = -3, FULL = -4, NO = -5, NONE = -6;

    private static final int FIGURES = 6;
    private static final int ALL_FIGURES = 63;
    private static final int CALLERS = 2;
    private static final int FIRST_SIGN = 33, LAST_SIGN = 126;
    private static final int FIRST_DIGIT = 48, FIRST_FIGURE = 65, FIRST_GOOD = 97;
    private static final int MOST_BEHIND = 12, MOST_SERVED = 6, MOST_WORTH = 99;
    private static final int MOST_SEED = 9999, MOST_NIGHT = 99;

    private final Pad pad;
    private final Market market;
    private final Market imageA;
    private final Market imageB;
    private int keptImages;
    private final int[] moves;
    private final Group group;
    private final Shortest shortest;
    private final Past past;
    private final Evening evening;

    public RoundDance() {
        pad = new Pad();
        market = new Market();
        imageA = new Market();
        imageB = new Market();
        keptImages = 0;
        moves = new int[FIGURES];
        group = new Group();
        shortest = new Shortest();
        past = new Past();
        evening = new Evening();
    }

    // ---- 1 figures

    public int places(int n) {
        if (n < Market.FEWEST_PLACES || n > Maps.PLACES) {
            return OUTSIDE;
        }
        int before = market.size;
        market.open(n);
        return before;
    }

    public int say(int sign) {
        if (sign < FIRST_SIGN || sign > LAST_SIGN) {
            return OUTSIDE;
        }
        if (pad.count >= Pad.MOST) {
            return FULL;
        }
        pad.write(sign);
        return pad.count;
    }

    public int wipe() {
        int before = pad.count;
        pad.clear();
        return before;
    }

    public int fault(int how) {
        if (how == 0) {
            return figureFault();
        }
        if (how == 1) {
            return rowFault();
        }
        if (how == 2) {
            return standingFault();
        }
        return OUTSIDE;
    }

    public int figure(int figure) {
        if (!isFigure(figure)) {
            return UNKNOWN;
        }
        if (figureFault() != NONE) {
            return NO;
        }
        int map = Maps.STAYS;
        for (int p = 0; p < market.size; p++) {
            map = Maps.with(map, p, pad.signAt(p) - FIRST_DIGIT);
        }
        Cells.put(market.figures, figure, map);
        pad.clear();
        return 1;
    }

    public int goes(int figure, int place, int danced) {
        if (!isFigure(figure) || !market.has(place)) {
            return UNKNOWN;
        }
        if (!isYesOrNo(danced)) {
            return OUTSIDE;
        }
        int map = danced == 1 ? market.danced(figure) : Cells.at(market.figures, figure);
        return Maps.to(map, place);
    }

    public int set(int which, int v) {
        if (which == 0) {
            return setLame(v);
        }
        if (which == 1) {
            return setPlayed(v);
        }
        if (which == 2) {
            return setLent(v);
        }
        return OUTSIDE;
    }

    public int music(int figure, int v) {
        if (!isFigure(figure)) {
            return UNKNOWN;
        }
        if (v < 1 || v > Market.BOTH) {
            return OUTSIDE;
        }
        int before = Cells.at(market.musics, figure);
        Cells.put(market.musics, figure, v);
        return before;
    }

    // ---- 2 dances

    public int judge() {
        if (rowFault() != NONE) {
            return NO;
        }
        return firstForbidden();
    }

    public int dance() {
        if (rowFault() != NONE || firstForbidden() != NONE) {
            return NO;
        }
        int figures = pad.count;
        market.standing = Maps.then(market.standing, rowMap());
        pad.clear();
        return figures;
    }

    public int home() {
        int away = 0;
        for (int good = 0; good < market.size; good++) {
            if (market.placeOf(good) != good) {
                away++;
            }
        }
        market.standing = Maps.STAYS;
        return away;
    }

    public int where(int k, int what) {
        if (!market.has(k)) {
            return UNKNOWN;
        }
        if (!isYesOrNo(what)) {
            return OUTSIDE;
        }
        return what == 0 ? market.placeOf(k) : Maps.to(Maps.undone(market.standing), k);
    }

    public int length() {
        if (rowFault() != NONE) {
            return NO;
        }
        return Maps.timesTillStays(rowMap());
    }

    public int sign(int figure) {
        if (!isFigure(figure)) {
            return UNKNOWN;
        }
        return Maps.isEven(market.danced(figure)) ? 1 : 0;
    }

    // ---- 3 wants, standings

    public int want(int good, int place) {
        if (!market.has(good) || (place != Market.UNWANTED && !market.has(place))) {
            return UNKNOWN;
        }
        if (place != Market.UNWANTED && market.isWantedByOther(good, place)) {
            return STATE;
        }
        int before = Cells.at(market.wants, good);
        Cells.put(market.wants, good, place);
        return before == Market.UNWANTED ? NONE : before;
    }

    public int fewest(int i) {
        market.fillMoves(moves);
        shortest.find(market, moves);
        int figures = shortest.figures;
        if (figures == Shortest.NO_ROW || i < -1 || i >= figures) {
            return NONE;
        }
        return i == -1 ? figures : FIRST_FIGURE + shortest.figureAt(i);
    }

    public int standings() {
        market.fillMoves(moves);
        group.gather(moves);
        return group.members();
    }

    public int canBe() {
        if (standingFault() != NONE) {
            return NO;
        }
        int told = Maps.STAYS;
        for (int p = 0; p < market.size; p++) {
            told = Maps.with(told, pad.signAt(p) - FIRST_GOOD, p);
        }
        market.fillMoves(moves);
        group.gather(moves);
        return group.has(Maps.then(Maps.undone(market.standing), told)) ? 1 : 0;
    }

    public int sure(int good) {
        if (!market.has(good)) {
            return UNKNOWN;
        }
        market.fillMoves(moves);
        int come = 1 << market.placeOf(good);
        for (int round = 0; round < Maps.PLACES; round++) {
            for (int p = 0; p < Maps.PLACES; p++) {
                if (Cells.isIn(come, p)) {
                    come |= nextPlaces(p, ALL_FIGURES);
                }
            }
        }
        return come;
    }

    // ---- 4 callers, how it came

    public int caller(int caller, int figures) {
        if (caller < 0 || caller >= CALLERS) {
            return UNKNOWN;
        }
        if (figures < 0 || figures > ALL_FIGURES) {
            return OUTSIDE;
        }
        int before = Cells.at(market.callers, caller);
        Cells.put(market.callers, caller, figures);
        return before;
    }

    public int forced(int good, int place) {
        if (!market.has(good) || !market.has(place)) {
            return UNKNOWN;
        }
        market.fillMoves(moves);
        int aim = 1 << place;
        int wonByFirst = aim;
        int wonBySecond = aim;
        // A round that wins no further place is the last; there are two times eight places to win.
        for (int calls = 0; calls <= 2 * Maps.PLACES; calls++) {
            if (Cells.isIn(wonByFirst, market.placeOf(good))) {
                return calls;
            }
            int first = aim | placesWithSome(Cells.at(market.callers, 0), wonBySecond);
            wonBySecond = aim | placesWithAll(Cells.at(market.callers, 1), wonByFirst);
            wonByFirst = first;
        }
        return NONE;
    }

    public int seen(int behind, int good, int place) {
        if (!market.has(good) || !market.has(place)) {
            return UNKNOWN;
        }
        if (behind < 0 || behind > MOST_BEHIND) {
            return OUTSIDE;
        }
        return noteMore(market.sights, behind, good, place);
    }

    public int forget() {
        return noteNone(market.sights);
    }

    public long rows(int m) {
        if (m < 0 || m > MOST_BEHIND) {
            return OUTSIDE;
        }
        market.fillMoves(moves);
        past.look(market, moves, m);
        return past.fittingRows;
    }

    public int came(int m, int i, int what) {
        if (m < 0 || m > MOST_BEHIND || i < 0 || i >= m || !isYesOrNo(what)) {
            return OUTSIDE;
        }
        market.fillMoves(moves);
        past.look(market, moves, m);
        if (past.fittingRows == 0) {
            return NONE;
        }
        return what == 0 ? FIRST_FIGURE + Cells.at(past.firstRow, i) : Cells.at(past.candidates, i);
    }

    // ---- 5 evenings

    public int wish(int good, int place, int worth) {
        if (!market.has(good) || !market.has(place)) {
            return UNKNOWN;
        }
        if (worth < 1 || worth > MOST_WORTH) {
            return OUTSIDE;
        }
        return noteMore(market.wishes, worth, good, place);
    }

    public int drop() {
        return noteNone(market.wishes);
    }

    public int served(int m, int i) {
        if (m < 0 || m > MOST_SERVED) {
            return OUTSIDE;
        }
        market.fillMoves(moves);
        evening.serve(market, moves, m);
        if (evening.best == Evening.NO_ROW || i < -1 || i >= m) {
            return NONE;
        }
        return i == -1 ? evening.best : FIRST_FIGURE + Maps.to(evening.bestRow, i);
    }

    public int night(int seed, int m, int good, int what) {
        if (!market.has(good)) {
            return UNKNOWN;
        }
        if (seed < 0 || seed > MOST_SEED || m < 0 || m > MOST_NIGHT || !isYesOrNo(what)) {
            return OUTSIDE;
        }
        market.fillMoves(moves);
        int allowed = allowedMoves();
        int place = market.placeOf(good);
        int held = 1 << place;
        int x = seed;
        for (int drawn = 0; drawn < m && allowed > 0; drawn++) {
            x = (75 * x + 74) % 65537;
            place = Maps.to(allowedMove(x % allowed), place);
            held |= 1 << place;
        }
        return what == 0 ? held : place;
    }

    public int image(int n) {
        if (!isYesOrNo(n)) {
            return OUTSIDE;
        }
        imageNumbered(n).take(market);
        keptImages |= 1 << n;
        return 1;
    }

    public int restore(int n) {
        if (!isYesOrNo(n)) {
            return OUTSIDE;
        }
        if (!Cells.isIn(keptImages, n)) {
            return STATE;
        }
        market.take(imageNumbered(n));
        return 1;
    }

    public int told(int what) {
        if (what >= 0 && what <= 6) {
            return toldOfAll(what);
        }
        if (what >= 10 && what < 10 + FIGURES) {
            return Cells.at(market.musics, what - 10);
        }
        if (what >= 20 && what < 20 + CALLERS) {
            return Cells.at(market.callers, what - 20);
        }
        if (what >= 30 && what < 30 + market.size) {
            return market.placeOf(what - 30);
        }
        if (what >= 40 && what < 40 + market.size) {
            int wanted = Cells.at(market.wants, what - 40);
            return wanted == Market.UNWANTED ? NONE : wanted;
        }
        return OUTSIDE;
    }

    // ---- what the calls share

    private static boolean isFigure(int figure) {
        return figure >= 0 && figure < FIGURES;
    }

    private static boolean isYesOrNo(int v) {
        return v == 0 || v == 1;
    }

    private int figureFault() {
        return pad.faultEachOnce(FIRST_DIGIT, market.size);
    }

    private int rowFault() {
        return pad.faultRow(FIRST_FIGURE, FIGURES);
    }

    private int standingFault() {
        return pad.faultEachOnce(FIRST_GOOD, market.size);
    }

    private int setLame(int v) {
        if (v < 0 || v >= 1 << market.size) {
            return OUTSIDE;
        }
        int before = market.lame;
        market.lame = v;
        return before;
    }

    private int setPlayed(int v) {
        if (v < 1 || v > 2) {
            return OUTSIDE;
        }
        int before = market.played;
        market.played = v;
        return before;
    }

    private int setLent(int v) {
        if (v < 0 || v > ALL_FIGURES) {
            return OUTSIDE;
        }
        int before = market.lent;
        market.lent = v;
        return before;
    }

    private int firstForbidden() {
        for (int i = 0; i < pad.count; i++) {
            if (!market.may(pad.signAt(i) - FIRST_FIGURE)) {
                return i;
            }
        }
        return NONE;
    }

    private int rowMap() {
        int map = Maps.STAYS;
        for (int i = 0; i < pad.count; i++) {
            map = Maps.then(map, market.danced(pad.signAt(i) - FIRST_FIGURE));
        }
        return map;
    }

    /** The places to which some of these figures that may be take what is at a place, as bits. */
    private int nextPlaces(int place, int figures) {
        int next = 0;
        for (int f = 0; f < FIGURES; f++) {
            int move = Cells.at(moves, f);
            if (move != Market.FORBIDDEN && Cells.isIn(figures, f)) {
                next |= 1 << Maps.to(move, place);
            }
        }
        // A caller who has no figure calls nothing, so that all stays.
        return next == 0 ? 1 << place : next;
    }

    private int placesWithSome(int figures, int won) {
        int some = 0;
        for (int p = 0; p < market.size; p++) {
            if ((nextPlaces(p, figures) & won) != 0) {
                some |= 1 << p;
            }
        }
        return some;
    }

    private int placesWithAll(int figures, int won) {
        int all = 0;
        for (int p = 0; p < market.size; p++) {
            if ((nextPlaces(p, figures) & ~won) == 0) {
                all |= 1 << p;
            }
        }
        return all;
    }

    private static int noteMore(Notes notes, int amount, int good, int place) {
        if (notes.count >= Notes.MOST) {
            return FULL;
        }
        notes.add(amount, good, place);
        return notes.count;
    }

    private static int noteNone(Notes notes) {
        int before = notes.count;
        notes.count = 0;
        return before;
    }

    private int allowedMoves() {
        int allowed = 0;
        for (int f = 0; f < FIGURES; f++) {
            if (Cells.at(moves, f) != Market.FORBIDDEN) {
                allowed++;
            }
        }
        return allowed;
    }

    private int allowedMove(int index) {
        int left = index;
        for (int f = 0; f < FIGURES; f++) {
            int move = Cells.at(moves, f);
            if (move != Market.FORBIDDEN) {
                if (left == 0) {
                    return move;
                }
                left--;
            }
        }
        return Maps.STAYS;
    }

    private Market imageNumbered(int n) {
        return n == 0 ? imageA : imageB;
    }

    private int toldOfAll(int what) {
        switch (what) {
            case 0:
                return pad.count;
            case 1:
                return market.size;
            case 2:
                return market.lame;
            case 3:
                return market.played;
            case 4:
                return market.lent;
            case 5:
                return market.sights.count;
            default:
                return market.wishes.count;
        }
    }

    // ---- what the object is made of

    /** Rows of numbers, whose indices are looked at before they are used. */
    private static final class Cells {
        private static int at(int[] row, int i) {
            return i >= 0 && i < row.length ? row[i] : 0;
        }

        private static void put(int[] row, int i, int v) {
            if (i >= 0 && i < row.length) {
                row[i] = v;
            }
        }

        private static long longAt(long[] row, int i) {
            return i >= 0 && i < row.length ? row[i] : 0;
        }

        private static void putLong(long[] row, int i, long v) {
            if (i >= 0 && i < row.length) {
                row[i] = v;
            }
        }

        /** Whether a number is among those whose bits are set. */
        private static boolean isIn(int bits, int i) {
            return ((bits >>> i) & 1) == 1;
        }

        private static void fill(int[] row, int v) {
            for (int i = 0; i < row.length; i++) {
                row[i] = v;
            }
        }

        private static void copy(int[] from, int[] to) {
            for (int i = 0; i < from.length && i < to.length; i++) {
                to[i] = from[i];
            }
        }

        /** The row itself where it is long enough: what is made stays in the room for good. */
        private static int[] grown(int[] row, int cells) {
            return cells <= row.length ? row : new int[cells];
        }

        private static long[] grownLong(long[] row, int cells) {
            return cells <= row.length ? row : new long[cells];
        }
    }

    /**
     * Maps of places to places, each in one number: where place p goes stands in its bits 3 p to 3 p + 2.
     * STAYS takes each place to itself, and so do all maps places that there are not. Shifts can not fail,
     * and equal maps are equal numbers.
     */
    private static final class Maps {
        private static final int PLACES = 8;
        private static final int STAYS = 0xFAC688;
        private static final int MOST_TIMES = 1000000;

        private static int to(int map, int from) {
            return (map >>> (3 * from)) & 7;
        }

        private static int with(int map, int from, int to) {
            return (map & ~(7 << (3 * from))) | ((to & 7) << (3 * from));
        }

        private static int then(int first, int second) {
            return thenOf(first, second, PLACES);
        }

        private static int thenOf(int first, int second, int count) {
            int both = 0;
            for (int p = 0; p < count; p++) {
                both |= to(second, to(first, p)) << (3 * p);
            }
            return both;
        }

        private static int undone(int map) {
            int back = 0;
            for (int p = 0; p < PLACES; p++) {
                back |= p << (3 * to(map, p));
            }
            return back;
        }

        /** As danced: who is lame keeps what he holds, and what would go to him goes on. */
        private static int passing(int map, int lame) {
            int danced = STAYS;
            for (int p = 0; p < PLACES; p++) {
                if (!Cells.isIn(lame, p)) {
                    danced = with(danced, p, firstNotLame(map, lame, to(map, p)));
                }
            }
            return danced;
        }

        private static int firstNotLame(int map, int lame, int place) {
            int p = place;
            for (int passed = 0; passed < PLACES && Cells.isIn(lame, p); passed++) {
                p = to(map, p);
            }
            return p;
        }

        private static int timesTillStays(int map) {
            int times = 1;
            for (int now = map; now != STAYS && times < MOST_TIMES; times++) {
                now = then(now, map);
            }
            return times;
        }

        private static boolean isEven(int map) {
            int crossings = 0;
            for (int p = 0; p < PLACES; p++) {
                for (int q = 0; q < p; q++) {
                    if (to(map, q) > to(map, p)) {
                        crossings++;
                    }
                }
            }
            return (crossings & 1) == 0;
        }
    }

    /** The pad: signs, and the first of them that can not stand there. */
    private static final class Pad {
        private static final int MOST = 30;
        private static final int MOST_ROW = 20;

        private final int[] signs = new int[MOST];
        private int count = 0;

        private void write(int sign) {
            if (count < MOST) {
                Cells.put(signs, count, sign);
                count++;
            }
        }

        private void clear() {
            count = 0;
        }

        private int signAt(int i) {
            return Cells.at(signs, i);
        }

        /** The fault in a text of so many signs, from a first one on, each once. */
        private int faultEachOnce(int firstSign, int size) {
            int used = 0;
            for (int i = 0; i < count; i++) {
                int which = signAt(i) - firstSign;
                if (which < 0 || which >= size || Cells.isIn(used, which)) {
                    return i;
                }
                used |= 1 << which;
            }
            return count < size ? count : NONE;
        }

        private int faultRow(int firstSign, int kinds) {
            for (int i = 0; i < count; i++) {
                int which = signAt(i) - firstSign;
                if (i >= MOST_ROW || which < 0 || which >= kinds) {
                    return i;
                }
            }
            return NONE;
        }
    }

    /** Notes of a good at a place, each with an amount: sights (behind how many) and wishes (worth). */
    private static final class Notes {
        private static final int MOST = 6;

        private final int[] marks = new int[MOST];
        private int count = 0;

        private void add(int amount, int good, int place) {
            if (count < MOST) {
                Cells.put(marks, count, (amount << 6) | (good << 3) | place);
                count++;
            }
        }

        private int mark(int i) {
            return Cells.at(marks, i);
        }

        private int amount(int i) {
            return mark(i) >>> 6;
        }

        private int good(int i) {
            return (mark(i) >>> 3) & 7;
        }

        private int place(int i) {
            return mark(i) & 7;
        }

        private void take(Notes other) {
            Cells.copy(other.marks, marks);
            count = other.count;
        }
    }

    /** All that an image keeps. */
    private static final class Market {
        private static final int FEWEST_PLACES = 3;
        private static final int BOTH = 3;
        private static final int UNWANTED = -1;
        private static final int FORBIDDEN = -1;

        private int size;
        private int standing;
        private int lame;
        private int played = 1;
        private int lent = 0;
        private final int[] figures = new int[FIGURES];
        private final int[] musics = new int[FIGURES];
        private final int[] wants = new int[Maps.PLACES];
        private final int[] callers = new int[CALLERS];
        private final Notes sights = new Notes();
        private final Notes wishes = new Notes();

        private Market() {
            Cells.fill(musics, BOTH);
            Cells.fill(callers, ALL_FIGURES);
            open(Maps.PLACES);
        }

        /** Music, Lent and the callers do not hang on how many places there are: they stay. */
        private void open(int n) {
            size = n;
            standing = Maps.STAYS;
            lame = 0;
            Cells.fill(figures, Maps.STAYS);
            Cells.fill(wants, UNWANTED);
            sights.count = 0;
            wishes.count = 0;
        }

        private boolean has(int place) {
            return place >= 0 && place < size;
        }

        private int placeOf(int good) {
            return Maps.to(standing, good);
        }

        private boolean may(int figure) {
            return (Cells.at(musics, figure) & played) != 0 && !Cells.isIn(lent, figure);
        }

        private int danced(int figure) {
            return Maps.passing(Cells.at(figures, figure), lame);
        }

        private void fillMoves(int[] moves) {
            for (int f = 0; f < FIGURES; f++) {
                Cells.put(moves, f, may(f) ? danced(f) : FORBIDDEN);
            }
        }

        private boolean isWantedByOther(int good, int place) {
            for (int other = 0; other < size; other++) {
                if (other != good && Cells.at(wants, other) == place) {
                    return true;
                }
            }
            return false;
        }

        private void take(Market other) {
            size = other.size;
            standing = other.standing;
            lame = other.lame;
            played = other.played;
            lent = other.lent;
            Cells.copy(other.figures, figures);
            Cells.copy(other.musics, musics);
            Cells.copy(other.wants, wants);
            Cells.copy(other.callers, callers);
            sights.take(other.sights);
            wishes.take(other.wishes);
        }
    }

    /** Whether a dear answer still stands: it does as long as all that it was made from is the same. */
    private static final class Memo {
        private static final int MOST = 20;

        private final int[] parts = new int[MOST];
        private int count = 0;
        private boolean stands = false;

        private void begin() {
            count = 0;
        }

        private void part(int v) {
            if (Cells.at(parts, count) != v) {
                stands = false;
            }
            Cells.put(parts, count, v);
            count++;
        }

        private void partsOfRow(int[] row) {
            for (int i = 0; i < row.length; i++) {
                part(row[i]);
            }
        }

        private void partsOfNotes(Notes notes) {
            for (int i = 0; i < Notes.MOST; i++) {
                part(i < notes.count ? notes.mark(i) : -1);
            }
        }

        /** Whether it must be made anew; from then on it stands. */
        private boolean endsStale() {
            boolean stale = !stands;
            stands = true;
            return stale;
        }
    }

    /**
     * All maps that figures make together, by a table as of Sims: at 8 p + q a map that leaves all places
     * ahead of p and takes p to q. It is whole when each product of two of its maps sifts to nothing.
     * A figure danced on and on undoes itself, so that no rows but a group's are to be counted.
     */
    private static final class Group {
        private static final int MISSING = -1;
        private static final int MOST_MADE = 28;

        private final int[] table = new int[Maps.PLACES * Maps.PLACES];
        private final int[] made = new int[MOST_MADE];
        private int count = 0;

        private void gather(int[] moves) {
            Cells.fill(table, MISSING);
            count = 0;
            for (int f = 0; f < moves.length; f++) {
                if (moves[f] != Market.FORBIDDEN) {
                    add(moves[f]);
                }
            }
            for (int i = 0; i < MOST_MADE && i < count; i++) {
                for (int j = 0; j <= i; j++) {
                    int one = Cells.at(made, i);
                    int other = Cells.at(made, j);
                    add(Maps.then(one, other));
                    add(Maps.then(other, one));
                }
            }
        }

        private void add(int map) {
            int rest = sift(map);
            for (int p = 0; p < Maps.PLACES && count < MOST_MADE; p++) {
                if (Maps.to(rest, p) != p) {
                    Cells.put(table, Maps.PLACES * p + Maps.to(rest, p), rest);
                    Cells.put(made, count, rest);
                    count++;
                    return;
                }
            }
        }

        /** What is left of a map behind the maps of the table; STAYS, if it is made of them. */
        private int sift(int map) {
            int rest = map;
            for (int p = 0; p < Maps.PLACES; p++) {
                int q = Maps.to(rest, p);
                if (q != p) {
                    int known = Cells.at(table, Maps.PLACES * p + q);
                    if (known == MISSING) {
                        return rest;
                    }
                    rest = Maps.then(rest, Maps.undone(known));
                }
            }
            return rest;
        }

        private boolean has(int map) {
            return sift(map) == Maps.STAYS;
        }

        private int members() {
            int all = 1;
            for (int p = 0; p < Maps.PLACES; p++) {
                int choices = 1;
                for (int q = p + 1; q < Maps.PLACES; q++) {
                    if (Cells.at(table, Maps.PLACES * p + q) != MISSING) {
                        choices++;
                    }
                }
                all *= choices;
            }
            return all;
        }
    }

    /**
     * Where some goods can come to lie together, from a start: their places in one number, as in Maps.
     * They are numbered as they are met, by the fewest figures and then by the first row: so the way back
     * to the start along the origins is the first of the shortest rows.
     */
    private static final class Orbit {
        private static final int NOT_MET = -1;
        private static final int NO_GOAL = -1;

        private final boolean keepsSteps;
        private int size = 0;
        private int goods = 0;
        private int count = 0;
        private int[] lyings = new int[0];
        private int[] origins = new int[0];
        private int[] numbers = new int[0];
        private int[] steps = new int[0];

        private Orbit(boolean keepsSteps) {
            this.keepsSteps = keepsSteps;
        }

        /** Goes on till the goal is met or all is; answers the number of the goal. */
        private int explore(int places, int howMany, int start, int goal, int[] moves) {
            clear(places, howMany);
            meet(start, 0);
            for (int i = 0; i < lyings.length && i < count && numberOf(goal) == NOT_MET; i++) {
                for (int f = 0; f < FIGURES; f++) {
                    int next = stepBy(Cells.at(moves, f), i, FIGURES * i + f);
                    if (keepsSteps) {
                        Cells.put(steps, FIGURES * i + f, next);
                    }
                }
            }
            return numberOf(goal);
        }

        private int stepBy(int move, int number, int origin) {
            if (move == Market.FORBIDDEN) {
                return NOT_MET;
            }
            return meet(Maps.thenOf(lying(number), move, goods), origin);
        }

        private void clear(int places, int howMany) {
            size = places;
            goods = howMany;
            count = 0;
            int cells = 1;
            for (int i = 0; i < goods; i++) {
                cells *= size - i;
            }
            lyings = Cells.grown(lyings, cells);
            origins = Cells.grown(origins, cells);
            numbers = Cells.grown(numbers, cells);
            Cells.fill(numbers, NOT_MET);
            if (keepsSteps) {
                steps = Cells.grown(steps, FIGURES * cells);
            }
        }

        /** The number of a lying: a new one, if it was not met before. */
        private int meet(int lying, int origin) {
            int rank = rank(lying);
            int known = Cells.at(numbers, rank);
            if (known != NOT_MET) {
                return known;
            }
            int number = count;
            Cells.put(numbers, rank, number);
            Cells.put(lyings, number, lying);
            Cells.put(origins, number, origin);
            count++;
            return number;
        }

        private int numberOf(int lying) {
            return lying == NO_GOAL ? NOT_MET : Cells.at(numbers, rank(lying));
        }

        /** The places of the goods, each counted among those that goods ahead of it leave. */
        private int rank(int lying) {
            int rank = 0;
            int used = 0;
            for (int i = 0; i < goods; i++) {
                int place = Maps.to(lying, i);
                int below = Integer.bitCount(used & ((1 << place) - 1));
                rank = rank * (size - i) + place - below;
                used |= 1 << place;
            }
            return rank;
        }

        private int lying(int number) {
            return Cells.at(lyings, number);
        }

        private int previous(int number) {
            return Cells.at(origins, number) / FIGURES;
        }

        private int figureTo(int number) {
            return Cells.at(origins, number) % FIGURES;
        }

        private int step(int number, int figure) {
            return Cells.at(steps, FIGURES * number + figure);
        }
    }

    /** The fewest figures to where goods are wanted. */
    private static final class Shortest {
        private static final int NO_ROW = -1;

        private final Orbit orbit = new Orbit(false);
        private final Memo memo = new Memo();
        private int end = NO_ROW;
        private int figures = NO_ROW;

        private void find(Market market, int[] moves) {
            int wanted = 0;
            int start = 0;
            int goal = 0;
            for (int good = 0; good < market.size; good++) {
                int place = Cells.at(market.wants, good);
                if (place != Market.UNWANTED) {
                    start = Maps.with(start, wanted, market.placeOf(good));
                    goal = Maps.with(goal, wanted, place);
                    wanted++;
                }
            }
            memo.begin();
            memo.partsOfRow(moves);
            memo.part(market.size);
            memo.part(wanted);
            memo.part(start);
            memo.part(goal);
            if (memo.endsStale()) {
                end = orbit.explore(market.size, wanted, start, goal, moves);
                figures = end == Orbit.NOT_MET ? NO_ROW : figuresTo(end);
            }
        }

        private int figuresTo(int number) {
            int steps = 0;
            for (int at = number; at > 0 && steps < orbit.count; steps++) {
                at = orbit.previous(at);
            }
            return steps;
        }

        private int figureAt(int i) {
            int at = end;
            for (int back = figures - 1; back > i; back--) {
                at = orbit.previous(at);
            }
            return orbit.figureTo(at);
        }
    }

    /** How it came: all rows of so many figures that fit what was seen. */
    private static final class Past {
        private final Orbit orbit = new Orbit(true);
        private final Memo memo = new Memo();
        private final Notes sights = new Notes();
        private final int[] firstRow = new int[MOST_BEHIND];
        private final int[] candidates = new int[MOST_BEHIND];
        private long fittingRows = 0;
        private int seenGoods = 0;
        private int seenTimes = 0;
        private long[] waysFrom = new long[0];
        private long[] waysAfter = new long[0];
        private int[] fitting = new int[0];
        private int[] reached = new int[0];

        private void look(Market market, int[] moves, int m) {
            takeSights(market.sights, m);
            memo.begin();
            memo.partsOfRow(moves);
            memo.part(market.size);
            memo.part(m);
            memo.partsOfNotes(sights);
            if (memo.endsStale()) {
                explore(market.size, moves);
                countRows(m);
                gatherCandidates(m);
                findFirstRow(m);
            }
        }

        private void takeSights(Notes all, int m) {
            sights.count = 0;
            seenGoods = 0;
            seenTimes = 0;
            for (int i = 0; i < all.count; i++) {
                if (all.amount(i) <= m) {
                    sights.add(all.amount(i), all.good(i), all.place(i));
                    seenGoods |= 1 << all.good(i);
                    seenTimes |= 1 << all.amount(i);
                }
            }
        }

        private void explore(int size, int[] moves) {
            int start = 0;
            for (int good = 0; good < size; good++) {
                if (Cells.isIn(seenGoods, good)) {
                    start = Maps.with(start, slotOf(good), good);
                }
            }
            orbit.explore(size, Integer.bitCount(seenGoods), start, Orbit.NO_GOAL, moves);
            waysFrom = Cells.grownLong(waysFrom, orbit.count);
            waysAfter = Cells.grownLong(waysAfter, orbit.count);
            fitting = Cells.grown(fitting, orbit.count);
            reached = Cells.grown(reached, orbit.count);
            Cells.fill(fitting, 0);
            Cells.fill(reached, 0);
        }

        /** The orbit holds the goods that were seen alone, in their order. */
        private int slotOf(int good) {
            return Integer.bitCount(seenGoods & ((1 << good) - 1));
        }

        private boolean fits(int time, int lying) {
            if (!Cells.isIn(seenTimes, time)) {
                return true;
            }
            for (int i = 0; i < sights.count; i++) {
                if (sights.amount(i) == time && Maps.to(lying, slotOf(sights.good(i))) != sights.place(i)) {
                    return false;
                }
            }
            return true;
        }

        /** From the last time to the first: how many ends of rows fit from each lying on. */
        private void countRows(int m) {
            for (int time = m; time >= 0; time--) {
                long[] spare = waysAfter;
                waysAfter = waysFrom;
                waysFrom = spare;
                for (int s = 0; s < orbit.count; s++) {
                    long ways = 0;
                    if (fits(time, orbit.lying(s))) {
                        ways = time == m ? 1 : sumAfter(s);
                    }
                    Cells.putLong(waysFrom, s, ways);
                    if (ways > 0) {
                        Cells.put(fitting, s, Cells.at(fitting, s) | (1 << time));
                    }
                }
            }
            fittingRows = Cells.longAt(waysFrom, 0);
        }

        private long sumAfter(int s) {
            long sum = 0;
            for (int f = 0; f < FIGURES; f++) {
                // A figure that may not be steps to no lying: no row goes on there.
                sum += Cells.longAt(waysAfter, orbit.step(s, f));
            }
            return sum;
        }

        private boolean isFitting(int s, int time) {
            return s != Orbit.NOT_MET && Cells.isIn(Cells.at(fitting, s), time);
        }

        private void gatherCandidates(int m) {
            Cells.put(reached, 0, isFitting(0, 0) ? 1 : 0);
            for (int time = 0; time < m; time++) {
                int figures = 0;
                for (int s = 0; s < orbit.count; s++) {
                    if (Cells.isIn(Cells.at(reached, s), time)) {
                        figures |= figuresOn(s, time);
                    }
                }
                Cells.put(candidates, time, figures);
            }
        }

        private int figuresOn(int s, int time) {
            int figures = 0;
            for (int f = 0; f < FIGURES; f++) {
                int next = orbit.step(s, f);
                if (isFitting(next, time + 1)) {
                    figures |= 1 << f;
                    Cells.put(reached, next, Cells.at(reached, next) | (1 << (time + 1)));
                }
            }
            return figures;
        }

        private void findFirstRow(int m) {
            int s = 0;
            for (int time = 0; time < m; time++) {
                int figure = firstFigureOn(s, time);
                Cells.put(firstRow, time, figure);
                s = orbit.step(s, figure);
            }
        }

        private int firstFigureOn(int s, int time) {
            for (int f = 0; f < FIGURES; f++) {
                if (isFitting(orbit.step(s, f), time + 1)) {
                    return f;
                }
            }
            return 0;
        }
    }

    /** An evening of wishes: the row that serves most. */
    private static final class Evening {
        private static final int NO_ROW = -1;

        private final Memo memo = new Memo();
        private final int[] moves = new int[FIGURES];
        private final Notes wishes = new Notes();
        private int figures = 0;
        private int allWorth = 0;
        private int best = NO_ROW;
        private int bestRow = 0;

        private void serve(Market market, int[] allowed, int m) {
            memo.begin();
            memo.partsOfRow(allowed);
            memo.part(m);
            memo.part(market.standing);
            memo.partsOfNotes(market.wishes);
            if (memo.endsStale()) {
                takeMoves(allowed);
                wishes.take(market.wishes);
                allWorth = worth(-1);
                figures = m;
                best = NO_ROW;
                bestRow = 0;
                tryRows(this, 0, market.standing, 0, 0);
            }
        }

        /** Of figures that do the same the first is enough: it makes the first row. */
        private void takeMoves(int[] allowed) {
            for (int f = 0; f < FIGURES; f++) {
                int move = Cells.at(allowed, f);
                for (int earlier = 0; earlier < f; earlier++) {
                    if (Cells.at(allowed, earlier) == move) {
                        move = Market.FORBIDDEN;
                    }
                }
                Cells.put(moves, f, move);
            }
        }

        private static void tryRows(Evening e, int danced, int standing, int before, int row) {
            if (danced > MOST_SERVED || e.best == e.allWorth) {
                return;
            }
            int held = before | e.holding(standing);
            if (danced >= e.figures) {
                e.compare(e.worth(held), row);
                return;
            }
            for (int f = 0; f < FIGURES; f++) {
                int move = Cells.at(e.moves, f);
                if (move != Market.FORBIDDEN) {
                    tryRows(e, danced + 1, Maps.then(standing, move), held, Maps.with(row, danced, f));
                }
            }
        }

        private void compare(int worth, int row) {
            if (worth > best) {
                best = worth;
                bestRow = row;
            }
        }

        private int holding(int standing) {
            int held = 0;
            for (int i = 0; i < wishes.count; i++) {
                if (Maps.to(standing, wishes.good(i)) == wishes.place(i)) {
                    held |= 1 << i;
                }
            }
            return held;
        }

        private int worth(int held) {
            int sum = 0;
            for (int i = 0; i < wishes.count; i++) {
                if (Cells.isIn(held, i)) {
                    sum += wishes.amount(i);
                }
            }
            return sum;
        }
    }
}
