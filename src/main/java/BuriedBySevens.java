import java.util.Arrays;

/**
 * A cellar of casks, a glass mixed of shares of them, and tasters who tell some marks more or less
 * bluntly. What each call promises stands in DOC.md.
 */
public final class BuriedBySevens {
    private static final int MOST_CASKS = 7;
    private static final int MOST_TASTERS = 6;
    private static final int MOST_ORDERED = 6;
    private static final int MARKS = 4;
    private static final int DIGIT = 9;
    private static final int TONGUES = 15;
    private static final int TASTE_TOP = 99;
    private static final int MOST_LETTERS = 96;
    private static final int LETTER_TOP = 255;
    private static final int MOST_IN_ROW = 12;
    private static final int MOST_BACK = 8;
    private static final int ALL_ORDERS = 720;
    private static final int GLASSES = 2187;
    private static final int SLOTS = 4096;
    private static final int EVERY = -1;

    private static final int OAK = 1;
    private static final int RAIN = 2;
    private static final int OLD = 3;
    private static final int EMPTY = 4;
    private static final int COUSIN = 5;

    private static final int NOBODY = -1;
    private static final int OTHER = -2;
    private static final int STATE = -3;
    private static final int BELOW = -4;
    private static final int ROOM = -6;
    private static final int NONE = -9;
    private static final long LONG_REFUSAL = 4000000000000000000L;

    private static final int[] POWERS = {1, 3, 9, 27, 81, 243, 729, 2187};
    private static final int[] FACTORIALS = {1, 1, 2, 6, 24, 120, 720, 5040};

    private final Cellar now = new Cellar();
    private final Cellar kept = new Cellar();
    private final Cellar draft = new Cellar();
    private final Glasses glasses = new Glasses();
    private final Window window = new Window();
    private final Text text = new Text();
    private final History history = new History();
    private final Line line = new Line();
    private final int[] best = new int[MOST_ORDERED];
    private final int[] numbers = new int[MOST_IN_ROW];
    private final int[] refused = new int[7];
    private final int[] glass = new int[MARKS];
    private final int[] another = new int[MARKS];
    private final int[] water = new int[MARKS];
    private final int[] twos = new int[MOST_TASTERS];
    private final int[] seen = new int[SLOTS];
    private int inRow;
    private boolean imaged;
    private boolean stale;

    public BuriedBySevens() {
        inRow = 0;
        imaged = false;
        stale = true;
    }

    // ---- I: what there is

    public int feed(int letter) {
        if (letter < 0) {
            return refuse(BELOW);
        }
        if (letter > LETTER_TOP || text.many >= MOST_LETTERS) {
            return refuse(ROOM);
        }
        text.append(letter);
        return text.many;
    }

    public int cellar() {
        draft.become(now);
        int told = text.readInto(draft);
        text.many = 0;
        if (told > 0) {
            now.become(draft);
            settle();
        }
        return told;
    }

    public int cask(int cask, int what) {
        if (!now.hasCask(cask)) {
            return refuse(NOBODY);
        }
        if (what < 0 || what > 6) {
            return refuse(OTHER);
        }
        switch (what) {
            case 0:
                return now.kindOf[cask];
            case 1:
                return now.figureOf[cask];
            case 6:
                return now.shareOf[cask];
            default:
                return now.marksOf[cask][what - 2];
        }
    }

    public int taster(int taster, int what) {
        if (!now.hasTaster(taster)) {
            return refuse(NOBODY);
        }
        switch (what) {
            case 0:
                return now.tongueOf[taster];
            case 1:
                return now.bluntOf[taster];
            case 2:
                return now.memoryOf[taster];
            default:
                return refuse(OTHER);
        }
    }

    public int comes(int kind, int figure, int marks) {
        if (!isKind(kind)) {
            return refuse(OTHER);
        }
        if (figure < 0 || marks < 0) {
            return refuse(BELOW);
        }
        if (figure > DIGIT || marks > 9999 || now.casks >= MOST_CASKS) {
            return refuse(ROOM);
        }
        now.addCask(kind, figure, marks);
        settle();
        return now.casks - 1;
    }

    public int joins(int marks, int blunt, int memory) {
        if (marks < 1 || blunt < 0 || memory < 0) {
            return refuse(BELOW);
        }
        if (marks > TONGUES || blunt > DIGIT || memory > DIGIT || now.tasters >= MOST_TASTERS) {
            return refuse(ROOM);
        }
        now.addTaster(marks, blunt, memory);
        settle();
        return now.tasters - 1;
    }

    public int share(int cask, int v) {
        if (!now.hasCask(cask)) {
            return refuse(NOBODY);
        }
        if (v < 0) {
            return refuse(BELOW);
        }
        if (v > DIGIT) {
            return refuse(ROOM);
        }
        int was = now.shareOf[cask];
        history.keep(cask, History.SHARE, was);
        now.shareOf[cask] = v;
        return was;
    }

    public int mark(int cask, int mark, int v) {
        if (!now.hasCask(cask) || !isMark(mark)) {
            return refuse(NOBODY);
        }
        if (v < 0) {
            return refuse(BELOW);
        }
        if (v > DIGIT) {
            return refuse(ROOM);
        }
        int was = now.marksOf[cask][mark];
        history.keep(cask, mark, was);
        now.marksOf[cask][mark] = v;
        brewAgain();
        return was;
    }

    public int kind(int cask, int kind, int figure) {
        if (!now.hasCask(cask)) {
            return refuse(NOBODY);
        }
        if (!isKind(kind)) {
            return refuse(OTHER);
        }
        if (figure < 0) {
            return refuse(BELOW);
        }
        if (figure > DIGIT) {
            return refuse(ROOM);
        }
        int was = 10 * now.kindOf[cask] + now.figureOf[cask];
        history.keep(cask, History.KIND, was);
        now.kindOf[cask] = kind;
        now.figureOf[cask] = figure;
        brewAgain();
        return was;
    }

    public int back() {
        if (history.many < 1) {
            return refuse(STATE);
        }
        history.undoLatest(now);
        brewAgain();
        return history.many;
    }

    // ---- II: what is tasted and told

    public int taste(int cask, int mark) {
        if (!isCaskOrGlass(cask) || !isMark(mark)) {
            return refuse(NOBODY);
        }
        return tasteAt(cask, mark);
    }

    public int tells(int taster, int cask, int mark) {
        if (!now.hasTaster(taster) || !isCaskOrGlass(cask) || !isMark(mark)) {
            return refuse(NOBODY);
        }
        if (!has(now.tongueOf[taster], mark)) {
            return NONE;
        }
        return told(tasteAt(cask, mark), now.bluntOf[taster]);
    }

    public int apart(int taster, int one, int other) {
        if (!now.hasTaster(taster) || !isTwo(one, other)) {
            return refuse(NOBODY);
        }
        return tellsApart(taster, now.tastesOf[one], now.tastesOf[other]) ? 1 : 0;
    }

    public int alike(int what) {
        if (!isZeroOrOne(what)) {
            return refuse(OTHER);
        }
        lookAtTwos();
        return howManyOrFirst(allTwos() & ~twosBy(everybody()), what);
    }

    // ---- II: what may be in the glass

    public int fits(int i) {
        if (i < -1) {
            return refuse(BELOW);
        }
        aimAtGlass(everybody());
        if (i == -1) {
            return mixed().countIn(window);
        }
        return shareIn(mixed().firstIn(window), i);
    }

    public long in(int cask, int part) {
        if (!now.hasCask(cask)) {
            return refuseLong(NOBODY);
        }
        if (!isZeroOrOne(part)) {
            return refuseLong(OTHER);
        }
        aimAtGlass(everybody());
        return fraction(mixed().countWith(window, cask), mixed().countIn(window), part);
    }

    public int sure(int what) {
        if (!isZeroOrOne(what)) {
            return refuse(OTHER);
        }
        aimAtGlass(everybody());
        int all = mixed().countIn(window);
        int due = what == 0 ? all : 0;
        int bits = 0;
        for (int c = 0; c < now.casks && all > 0; c++) {
            if (mixed().countWith(window, c) == due) {
                bits |= 1 << c;
            }
        }
        return bits;
    }

    public int tellsMost(int what) {
        if (!isZeroOrOne(what)) {
            return refuse(OTHER);
        }
        int who = NONE;
        int fewest = NONE;
        for (int t = 0; t < now.tasters; t++) {
            int fitting = fitsBy(1 << t);
            if (who == NONE || fitting < fewest) {
                who = t;
                fewest = fitting;
            }
        }
        return what == 0 ? who : fewest;
    }

    public int drops() {
        int all = everybody();
        int chosen = all;
        int fewest = fitsBy(all);
        for (int some = 0; some < all; some++) {
            if (Integer.bitCount(some) < Integer.bitCount(chosen) && fitsBy(some) == fewest) {
                chosen = some;
            }
        }
        return chosen;
    }

    public int claim(int taster, int cask) {
        if (!now.hasTaster(taster) || !now.hasCask(cask)) {
            return refuse(NOBODY);
        }
        aimAtGlass(1 << taster);
        int with = mixed().countWith(window, cask);
        if (with == 0) {
            return 2;
        }
        return with == mixed().countIn(window) ? 0 : 1;
    }

    public int team() {
        lookAtTwos();
        int all = everybody();
        int chosen = all;
        int due = twosBy(all);
        for (int some = 0; some < all; some++) {
            if (Integer.bitCount(some) < Integer.bitCount(chosen) && twosBy(some) == due) {
                chosen = some;
            }
        }
        return chosen;
    }

    public int order(int taster, int i) {
        if (!now.hasTaster(taster)) {
            return refuse(NOBODY);
        }
        if (i < -1) {
            return refuse(BELOW);
        }
        if (now.casks > MOST_ORDERED) {
            return refuse(STATE);
        }
        int least = leastForgotten(now.memoryOf[taster]);
        if (i == -1) {
            return least;
        }
        return i < now.casks ? best[i] : NONE;
    }

    public int gone(int what) {
        if (!isZeroOrOne(what)) {
            return refuse(OTHER);
        }
        lookAtGlass();
        int which = NONE;
        int fewest = NONE;
        for (int c = 0; c < now.casks; c++) {
            if (now.shareOf[c] == 0) {
                continue;
            }
            now.mixSome(now.shareOf, ~(1 << c), 0, another);
            int telling = howManyTellApart(glass, another);
            if (which == NONE || telling < fewest) {
                which = c;
                fewest = telling;
            }
        }
        return what == 0 ? which : fewest;
    }

    public int emptyOnes() {
        lookAtGlass();
        int bits = 0;
        for (int c = 0; c < now.casks; c++) {
            if (now.shareOf[c] == 0) {
                continue;
            }
            mixWereItEmpty(c);
            if (howManyTellApart(glass, another) == 0) {
                bits |= 1 << c;
            }
        }
        return bits;
    }

    public int guess(int cask, int r, int w, int what) {
        if (!now.hasCask(cask)) {
            return refuse(NOBODY);
        }
        if (r < 1 || w < 0) {
            return refuse(BELOW);
        }
        if (r > TASTE_TOP || w > TASTE_TOP) {
            return refuse(ROOM);
        }
        if (!isZeroOrOne(what)) {
            return refuse(OTHER);
        }
        aimAtGlass(everybody());
        int right = mixed().countWith(window, cask);
        int wrong = mixed().countIn(window) - right;
        if (what == 0) {
            return r * right > w * wrong ? 1 : 0;
        }
        for (int least = 1; least <= TASTE_TOP; least++) {
            if (least * right > w * wrong) {
                return least;
            }
        }
        return NONE;
    }

    public long adds(int cask, int part) {
        if (!now.hasCask(cask)) {
            return refuseLong(NOBODY);
        }
        if (!isZeroOrOne(part)) {
            return refuseLong(OTHER);
        }
        if (now.shareOf[cask] == 0) {
            return refuseLong(STATE);
        }
        int others = casksWithShare() & ~(1 << cask);
        int behind = Integer.bitCount(others);
        long sum = 0;
        for (int some = 0; some < (1 << now.casks); some++) {
            if ((some & ~others) != 0) {
                continue;
            }
            int ahead = Integer.bitCount(some);
            long orders = (long) FACTORIALS[ahead] * FACTORIALS[behind - ahead];
            sum += orders * (tellFromWater(some | 1 << cask) - tellFromWater(some));
        }
        return fraction(sum, FACTORIALS[behind + 1], part);
    }

    public long onions(int t, int part) {
        if (t < 2) {
            return refuseLong(BELOW);
        }
        if (t > 20) {
            return refuseLong(ROOM);
        }
        if (!isZeroOrOne(part)) {
            return refuseLong(OTHER);
        }
        lookAtTwos();
        int due = twosBy(everybody());
        long likely = 0;
        for (int some = 0; some <= everybody(); some++) {
            if (twosBy(some) == due) {
                likely += power(t - 1, Integer.bitCount(some));
            }
        }
        return fraction(likely, power(t, now.tasters), part);
    }

    // ---- II: what the row tells

    public int two(int what) {
        if (!isZeroOrOne(what)) {
            return refuse(OTHER);
        }
        if (!isRowOfShares()) {
            return refuse(STATE);
        }
        lookAtGlass();
        now.mixSome(numbers, EVERY, 0, another);
        int who = 0;
        int marks = 0;
        for (int t = 0; t < now.tasters; t++) {
            int unlike = marksApart(t, glass, another);
            marks |= unlike;
            if (unlike != 0) {
                who |= 1 << t;
            }
        }
        return what == 0 ? who : marks;
    }

    public int impostor(int taster, int what) {
        if (!now.hasTaster(taster)) {
            return refuse(NOBODY);
        }
        if (!isZeroOrOne(what)) {
            return refuse(OTHER);
        }
        if (inRow != MARKS) {
            return refuse(STATE);
        }
        lookAtGlass();
        for (int m = 0; m < MARKS; m++) {
            boolean tasted = has(now.tongueOf[taster], m);
            boolean untrue = tasted && numbers[m] != told(glass[m], now.bluntOf[taster]);
            boolean named = !tasted && numbers[m] != 0;
            if (what == 0 ? untrue : named) {
                return m;
            }
        }
        return NONE;
    }

    // ---- III

    public int nearest() {
        int which = NONE;
        int least = 0;
        for (int a = 0; a < now.casks; a++) {
            for (int b = a + 1; b < now.casks; b++) {
                int far = now.distance(a, b);
                if (which == NONE || far < least) {
                    which = 10 * a + b;
                    least = far;
                }
            }
        }
        return which;
    }

    public int strongest() {
        if (casksWithShare() == 0) {
            return NONE;
        }
        int which = NONE;
        int most = 0;
        for (int c = 0; c < now.casks; c++) {
            int strong = now.shareOf[c] * now.weight(c);
            if (which == NONE || strong > most) {
                which = c;
                most = strong;
            }
        }
        return which;
    }

    public int sharper() {
        int who = NONE;
        int fewest = fitsBy(everybody());
        for (int t = 0; t < now.tasters; t++) {
            int was = now.bluntOf[t];
            now.bluntOf[t] = 0;
            int fitting = fitsBy(everybody());
            now.bluntOf[t] = was;
            if (fitting < fewest) {
                who = t;
                fewest = fitting;
            }
        }
        return who;
    }

    public int more() {
        int which = NONE;
        int fewest = fitsBy(everybody());
        for (int c = 0; c < now.casks; c++) {
            if (now.shareOf[c] >= DIGIT) {
                continue;
            }
            mixWithShare(c, now.shareOf[c] + 1);
            aim(everybody(), another);
            int fitting = mixed().countIn(window);
            if (fitting < fewest) {
                which = c;
                fewest = fitting;
            }
        }
        return which;
    }

    public int range(int mark) {
        if (!isMark(mark)) {
            return refuse(NOBODY);
        }
        int least = TASTE_TOP;
        int most = 0;
        for (int c = 0; c < now.casks; c++) {
            least = Math.min(least, now.tastesOf[c][mark]);
            most = Math.max(most, now.tastesOf[c][mark]);
        }
        return now.casks == 0 ? 0 : most - least;
    }

    public int pour(int mark, int v) {
        if (!isMark(mark)) {
            return refuse(NOBODY);
        }
        if (v < 0) {
            return refuse(BELOW);
        }
        if (v > TASTE_TOP) {
            return refuse(ROOM);
        }
        window.open();
        window.narrow(mark, v, 0);
        return mixed().fewestParts(window);
    }

    public int like() {
        lookAtGlass();
        int bits = 0;
        for (int c = 0; c < now.casks; c++) {
            if (howManyTellApart(glass, now.tastesOf[c]) == 0) {
                bits |= 1 << c;
            }
        }
        return bits;
    }

    // ---- IV

    public int duo(int what) {
        if (!isZeroOrOne(what)) {
            return refuse(OTHER);
        }
        int who = NONE;
        int fewest = NONE;
        for (int a = 0; a < now.tasters; a++) {
            for (int b = a + 1; b < now.tasters; b++) {
                int fitting = fitsBy(1 << a | 1 << b);
                if (who == NONE || fitting < fewest) {
                    who = 10 * a + b;
                    fewest = fitting;
                }
            }
        }
        return what == 0 ? who : fewest;
    }

    public int hidden(int what) {
        if (!isZeroOrOne(what)) {
            return refuse(OTHER);
        }
        lookAtGlass();
        int first = NONE;
        int many = 0;
        for (int c = 0; c < now.casks; c++) {
            int is = now.shareOf[c];
            for (int v = is - 1; v <= is + 1; v += 2) {
                if (v < 0 || v > DIGIT) {
                    continue;
                }
                mixWithShare(c, v);
                if (howManyTellApart(glass, another) > 0) {
                    continue;
                }
                first = many == 0 ? 10 * c + v : first;
                many++;
            }
        }
        return what == 0 ? many : first;
    }

    public int diluted(int taster) {
        if (!now.hasTaster(taster)) {
            return refuse(NOBODY);
        }
        for (int more = 0; more <= TASTE_TOP; more++) {
            now.mixSome(now.shareOf, EVERY, more, another);
            if (!tellsApart(taster, another, water)) {
                return more;
            }
        }
        return NONE;
    }

    public int kinds(int taster) {
        if (!now.hasTaster(taster)) {
            return refuse(NOBODY);
        }
        Arrays.fill(seen, 0);
        int many = 0;
        for (int g = 1; g < mixed().many; g++) {
            if (isNew(tellingOf(taster, g))) {
                many++;
            }
        }
        return many;
    }

    public int substitutes(int cask) {
        if (!now.hasCask(cask)) {
            return refuse(NOBODY);
        }
        int its = now.shareOf[cask];
        if (its == 0) {
            return refuse(STATE);
        }
        lookAtGlass();
        int bits = 0;
        now.shareOf[cask] = 0;
        for (int c = 0; c < now.casks; c++) {
            if (c == cask) {
                continue;
            }
            mixWithShare(c, Math.min(now.shareOf[c] + its, DIGIT));
            if (howManyTellApart(glass, another) == 0) {
                bits |= 1 << c;
            }
        }
        now.shareOf[cask] = its;
        return bits;
    }

    public int exact(int taster) {
        if (!now.hasTaster(taster)) {
            return refuse(NOBODY);
        }
        int many = 0;
        for (int c = 0; c < now.casks; c++) {
            for (int m = 0; m < MARKS; m++) {
                int taste = now.tastesOf[c][m];
                if (has(now.tongueOf[taster], m) && told(taste, now.bluntOf[taster]) == taste) {
                    many++;
                }
            }
        }
        return many;
    }

    public int bluntest(int taster, int one, int other) {
        if (!now.hasTaster(taster) || !isTwo(one, other)) {
            return refuse(NOBODY);
        }
        int tongue = now.tongueOf[taster];
        for (int blunt = DIGIT; blunt >= 0; blunt--) {
            if (unlikeMarks(tongue, blunt, now.tastesOf[one], now.tastesOf[other]) != 0) {
                return blunt;
            }
        }
        return NONE;
    }

    public int closest(int i) {
        if (i < -1) {
            return refuse(BELOW);
        }
        if (inRow != MARKS) {
            return refuse(STATE);
        }
        if (now.casks == 0) {
            return NONE;
        }
        int nearest = 1;
        for (int g = 2; g < mixed().many; g++) {
            if (mixed().distance(g, numbers) < mixed().distance(nearest, numbers)) {
                nearest = g;
            }
        }
        return i == -1 ? mixed().distance(nearest, numbers) : shareIn(nearest, i);
    }

    public int rank(int i) {
        if (i < 0) {
            return refuse(BELOW);
        }
        for (int c = 0; c < now.casks; c++) {
            if (howManyStronger(c) == i) {
                return c;
            }
        }
        return NONE;
    }

    public int alikeGlasses() {
        lookAtGlass();
        window.open();
        for (int m = 0; m < MARKS; m++) {
            window.narrow(m, glass[m], 0);
        }
        return mixed().countIn(window);
    }

    public int blind(int taster, int what) {
        if (!now.hasTaster(taster)) {
            return refuse(NOBODY);
        }
        if (!isZeroOrOne(what)) {
            return refuse(OTHER);
        }
        lookAtTwos();
        return howManyOrFirst(allTwos() & ~twosBy(1 << taster), what);
    }

    public int loner(int what) {
        if (!isZeroOrOne(what)) {
            return refuse(OTHER);
        }
        int which = NONE;
        int most = 0;
        for (int c = 0; c < now.casks; c++) {
            int often = howOftenApart(c);
            if (which == NONE || often > most) {
                which = c;
                most = often;
            }
        }
        return what == 0 ? which : most;
    }

    public int twin(int cask) {
        if (!now.hasCask(cask)) {
            return refuse(NOBODY);
        }
        int which = NONE;
        int least = 0;
        for (int c = 0; c < now.casks; c++) {
            int far = now.distance(cask, c);
            if (c != cask && (which == NONE || far < least)) {
                which = c;
                least = far;
            }
        }
        return which;
    }

    // ---- the row, lots, the image

    public int row(int v) {
        if (v < 0) {
            return refuse(BELOW);
        }
        if (v > TASTE_TOP || inRow >= MOST_IN_ROW) {
            return refuse(ROOM);
        }
        numbers[inRow] = v;
        inRow++;
        return inRow;
    }

    public int judge(int mark) {
        if (!isMark(mark)) {
            return refuse(NOBODY);
        }
        int untrue = NONE;
        for (int i = 0; i < inRow && untrue == NONE; i++) {
            // the glass stands ahead of the casks, as number -1
            if (i > now.casks || numbers[i] != tasteAt(i - 1, mark)) {
                untrue = i;
            }
        }
        inRow = 0;
        return untrue;
    }

    public int clear() {
        int had = inRow;
        inRow = 0;
        return had;
    }

    public int lots(int n, int z, int what) {
        if (n < 1) {
            return refuse(BELOW);
        }
        if (n > 20) {
            return refuse(ROOM);
        }
        if (!isZeroOrOne(what)) {
            return refuse(OTHER);
        }
        int seed = z;
        int all = 0;
        int single = 0;
        for (int k = 0; k < n; k++) {
            int drawn = 0;
            for (int c = 0; c < now.casks; c++) {
                seed = seed * 1103515245 + 12345;
                drawn = 3 * drawn + (seed & 0x7fffffff) / 65536 % 3;
            }
            int fitting = fitsOfMix(drawn);
            all += fitting;
            single += fitting == 1 ? 1 : 0;
        }
        return what == 0 ? all : single;
    }

    public int image() {
        kept.become(now);
        imaged = true;
        return now.casks;
    }

    public int restore() {
        if (!imaged) {
            return refuse(STATE);
        }
        now.become(kept);
        settle();
        return now.casks;
    }

    public int count(int what) {
        switch (what) {
            case 0:
                return now.casks;
            case 1:
                return now.tasters;
            case 2:
                return now.allShares();
            case 3:
                return now.allMarks();
            case 4:
                return text.many;
            case 5:
                return inRow;
            case 6:
                return history.many;
            default:
                return what >= 11 && what <= 16 ? refused[what - 10] : NONE;
        }
    }

    // ---- refusals and what is asked for

    private int refuse(int number) {
        if (number < 0 && -number < refused.length) {
            refused[-number]++;
        }
        return number;
    }

    private long refuseLong(int number) {
        return LONG_REFUSAL - refuse(number);
    }

    private static boolean isZeroOrOne(int what) {
        return what == 0 || what == 1;
    }

    private static boolean isMark(int mark) {
        return mark >= 0 && mark < MARKS;
    }

    private static boolean isKind(int kind) {
        return kind >= 0 && kind <= COUSIN;
    }

    private boolean isCaskOrGlass(int cask) {
        return cask == -1 || now.hasCask(cask);
    }

    private boolean isTwo(int one, int other) {
        return now.hasCask(one) && now.hasCask(other) && one != other;
    }

    private boolean isRowOfShares() {
        if (inRow != now.casks) {
            return false;
        }
        for (int i = 0; i < inRow; i++) {
            if (numbers[i] > DIGIT) {
                return false;
            }
        }
        return true;
    }

    private static boolean has(int bits, int number) {
        return (bits >> number & 1) == 1;
    }

    // ---- changes

    private void brewAgain() {
        now.brew();
        stale = true;
    }

    /** What changed who is there can't be taken back, nor what was ahead of it. */
    private void settle() {
        history.many = 0;
        brewAgain();
    }

    // ---- tastes

    private static int told(int taste, int blunt) {
        int step = blunt + 1;
        return step < 1 ? taste : taste - taste % step;
    }

    private int tasteAt(int cask, int mark) {
        if (now.hasCask(cask)) {
            return now.tastesOf[cask][mark];
        }
        lookAtGlass();
        return glass[mark];
    }

    private void lookAtGlass() {
        now.mixSome(now.shareOf, EVERY, 0, glass);
    }

    private void mixWithShare(int cask, int v) {
        int was = now.shareOf[cask];
        now.shareOf[cask] = v;
        now.mixSome(now.shareOf, EVERY, 0, another);
        now.shareOf[cask] = was;
    }

    /** A cousin behind an empty cask tastes otherwise too: so all is brewed anew. */
    private void mixWereItEmpty(int cask) {
        int was = now.kindOf[cask];
        now.kindOf[cask] = EMPTY;
        now.brew();
        now.mixSome(now.shareOf, EVERY, 0, another);
        now.kindOf[cask] = was;
        now.brew();
    }

    private int casksWithShare() {
        int bits = 0;
        for (int c = 0; c < now.casks; c++) {
            if (now.shareOf[c] > 0) {
                bits |= 1 << c;
            }
        }
        return bits;
    }

    private int howManyStronger(int cask) {
        int weight = now.weight(cask);
        int many = 0;
        for (int c = 0; c < now.casks; c++) {
            if (now.weight(c) > weight || now.weight(c) == weight && c < cask) {
                many++;
            }
        }
        return many;
    }

    // ---- who tells what apart

    private static int unlikeMarks(int tongue, int blunt, int[] one, int[] other) {
        int bits = 0;
        for (int m = 0; m < MARKS; m++) {
            if (has(tongue, m) && told(one[m], blunt) != told(other[m], blunt)) {
                bits |= 1 << m;
            }
        }
        return bits;
    }

    private int marksApart(int taster, int[] one, int[] other) {
        return unlikeMarks(now.tongueOf[taster], now.bluntOf[taster], one, other);
    }

    private boolean tellsApart(int taster, int[] one, int[] other) {
        return marksApart(taster, one, other) != 0;
    }

    private int howManyTellApart(int[] one, int[] other) {
        int many = 0;
        for (int t = 0; t < now.tasters; t++) {
            if (tellsApart(t, one, other)) {
                many++;
            }
        }
        return many;
    }

    private int tellFromWater(int casks) {
        now.mixSome(now.shareOf, casks, 0, another);
        return howManyTellApart(another, water);
    }

    private int howOftenApart(int cask) {
        int often = 0;
        for (int c = 0; c < now.casks; c++) {
            often += howManyTellApart(now.tastesOf[cask], now.tastesOf[c]);
        }
        return often;
    }

    private int everybody() {
        return (1 << now.tasters) - 1;
    }

    private int allTwos() {
        return (1 << now.casks * (now.casks - 1) / 2) - 1;
    }

    /** A bit for each two of casks, the first two's first, of those that a taster tells apart. */
    private void lookAtTwos() {
        for (int t = 0; t < now.tasters; t++) {
            int bits = 0;
            int bit = 1;
            for (int a = 0; a < now.casks; a++) {
                for (int b = a + 1; b < now.casks; b++) {
                    if (tellsApart(t, now.tastesOf[a], now.tastesOf[b])) {
                        bits |= bit;
                    }
                    bit <<= 1;
                }
            }
            twos[t] = bits;
        }
    }

    private int twosBy(int tasters) {
        int bits = 0;
        for (int t = 0; t < now.tasters; t++) {
            if (has(tasters, t)) {
                bits |= twos[t];
            }
        }
        return bits;
    }

    private int howManyOrFirst(int bits, int what) {
        if (what == 0) {
            return Integer.bitCount(bits);
        }
        int bit = 1;
        for (int a = 0; a < now.casks; a++) {
            for (int b = a + 1; b < now.casks; b++) {
                if ((bits & bit) != 0) {
                    return 10 * a + b;
                }
                bit <<= 1;
            }
        }
        return NONE;
    }

    // ---- glasses that fit

    private Glasses mixed() {
        if (stale) {
            glasses.mixAll(now);
            stale = false;
        }
        return glasses;
    }

    private void aim(int tasters, int[] tastes) {
        window.open();
        for (int t = 0; t < now.tasters; t++) {
            for (int m = 0; m < MARKS; m++) {
                if (has(tasters, t) && has(now.tongueOf[t], m)) {
                    window.narrow(m, tastes[m], now.bluntOf[t]);
                }
            }
        }
    }

    private void aimAtGlass(int tasters) {
        lookAtGlass();
        aim(tasters, glass);
    }

    private int fitsBy(int tasters) {
        aimAtGlass(tasters);
        return mixed().countIn(window);
    }

    private int fitsOfMix(int drawn) {
        if (drawn < 1 || drawn >= mixed().many) {
            return 0;
        }
        for (int m = 0; m < MARKS; m++) {
            another[m] = mixed().tastes[m][drawn];
        }
        aim(everybody(), another);
        return mixed().countIn(window);
    }

    private int shareIn(int number, int cask) {
        if (number < 1 || !now.hasCask(cask)) {
            return NONE;
        }
        return mixed().shareOf(number, cask);
    }

    /** All that a taster tells of a glass as one number, above 0; a told taste has 7 bits. */
    private int tellingOf(int taster, int number) {
        int telling = 1;
        for (int m = 0; m < MARKS; m++) {
            int taste = mixed().tastes[m][number];
            boolean tasted = has(now.tongueOf[taster], m);
            telling = telling << 7 | (tasted ? told(taste, now.bluntOf[taster]) : 0);
        }
        return telling;
    }

    private boolean isNew(int telling) {
        int slot = telling * 0x9E3779B1 >>> 20;
        for (int k = 0; k < SLOTS; k++) {
            int at = slot + k & SLOTS - 1;
            if (seen[at] == telling) {
                return false;
            }
            if (seen[at] == 0) {
                seen[at] = telling;
                return true;
            }
        }
        return false;
    }

    // ---- orders and fractions

    private int leastForgotten(int memory) {
        int least = 0;
        line.start(now.casks);
        for (int k = 0; k < ALL_ORDERS; k++) {
            int lost = forgotten(memory);
            if (k == 0 || lost < least) {
                least = lost;
                System.arraycopy(line.at, 0, best, 0, MOST_ORDERED);
            }
            if (!line.goOn()) {
                break;
            }
        }
        return least;
    }

    private int forgotten(int memory) {
        int sum = 0;
        for (int p = 0; p < line.many; p++) {
            int later = line.many - 1 - p;
            sum += Math.max(0, later * now.weight(line.at[p]) - memory * p);
        }
        return sum;
    }

    private static long power(long base, int times) {
        long product = 1;
        for (int k = 0; k < times; k++) {
            product *= base;
        }
        return product;
    }

    private static long fraction(long above, long below, int part) {
        if (above == 0 || below == 0) {
            return part == 0 ? 0 : 1;
        }
        long divisor = Math.abs(above);
        long rest = below;
        for (int k = 0; k < 100 && rest != 0; k++) {
            long next = divisor % rest;
            divisor = rest;
            rest = next;
        }
        if (divisor == 0) {
            return part == 0 ? above : below;
        }
        return part == 0 ? above / divisor : below / divisor;
    }

    /** The casks, the shares of them in the glass, and the tasters. */
    private static final class Cellar {
        int casks;
        int tasters;
        final int[] kindOf = new int[MOST_CASKS];
        final int[] figureOf = new int[MOST_CASKS];
        final int[] shareOf = new int[MOST_CASKS];
        final int[][] marksOf = new int[MOST_CASKS][MARKS];
        final int[][] tastesOf = new int[MOST_CASKS][MARKS];
        final int[] tongueOf = new int[MOST_TASTERS];
        final int[] bluntOf = new int[MOST_TASTERS];
        final int[] memoryOf = new int[MOST_TASTERS];

        boolean hasCask(int cask) {
            return cask >= 0 && cask < casks;
        }

        boolean hasTaster(int taster) {
            return taster >= 0 && taster < tasters;
        }

        void addCask(int kind, int figure, int marks) {
            if (casks >= MOST_CASKS) {
                return;
            }
            kindOf[casks] = kind;
            figureOf[casks] = figure;
            shareOf[casks] = 0;
            int rest = marks;
            for (int m = MARKS - 1; m >= 0; m--) {
                marksOf[casks][m] = rest % 10;
                rest /= 10;
            }
            casks++;
        }

        void addTaster(int marks, int blunt, int memory) {
            if (tasters >= MOST_TASTERS) {
                return;
            }
            tongueOf[tasters] = marks;
            bluntOf[tasters] = blunt;
            memoryOf[tasters] = memory;
            tasters++;
        }

        void become(Cellar from) {
            casks = from.casks;
            tasters = from.tasters;
            System.arraycopy(from.kindOf, 0, kindOf, 0, MOST_CASKS);
            System.arraycopy(from.figureOf, 0, figureOf, 0, MOST_CASKS);
            System.arraycopy(from.shareOf, 0, shareOf, 0, MOST_CASKS);
            for (int c = 0; c < MOST_CASKS; c++) {
                System.arraycopy(from.marksOf[c], 0, marksOf[c], 0, MARKS);
            }
            System.arraycopy(from.tongueOf, 0, tongueOf, 0, MOST_TASTERS);
            System.arraycopy(from.bluntOf, 0, bluntOf, 0, MOST_TASTERS);
            System.arraycopy(from.memoryOf, 0, memoryOf, 0, MOST_TASTERS);
        }

        /** A cousin needs the taste ahead of it: so from the first cask on. */
        void brew() {
            for (int c = 0; c < casks; c++) {
                for (int m = 0; m < MARKS; m++) {
                    tastesOf[c][m] = tasteByKind(c, m);
                }
            }
        }

        private int tasteByKind(int cask, int mark) {
            int plain = 3 * marksOf[cask][mark];
            switch (kindOf[cask]) {
                case OAK:
                    return plain + figureOf[cask];
                case RAIN:
                    return plain / 2;
                case OLD:
                    return 2 * (plain + figureOf[cask]);
                case EMPTY:
                    return 0;
                case COUSIN:
                    return cask == 0 ? plain : (plain + tastesOf[cask - 1][mark]) / 2;
                default:
                    return plain;
            }
        }

        /** What a glass of such shares of some casks (bits), and of water, tastes of. */
        void mixSome(int[] shares, int some, int water, int[] into) {
            for (int m = 0; m < MARKS; m++) {
                int sum = 0;
                int parts = water;
                for (int c = 0; c < casks; c++) {
                    if (has(some, c)) {
                        sum += shares[c] * tastesOf[c][m];
                        parts += shares[c];
                    }
                }
                into[m] = parts == 0 ? 0 : sum / parts;
            }
        }

        int weight(int cask) {
            int sum = 0;
            for (int m = 0; m < MARKS; m++) {
                sum += tastesOf[cask][m];
            }
            return sum;
        }

        int distance(int one, int other) {
            int sum = 0;
            for (int m = 0; m < MARKS; m++) {
                sum += Math.abs(tastesOf[one][m] - tastesOf[other][m]);
            }
            return sum;
        }

        int allShares() {
            int sum = 0;
            for (int c = 0; c < casks; c++) {
                sum += shareOf[c];
            }
            return sum;
        }

        int allMarks() {
            int sum = 0;
            for (int c = 0; c < casks; c++) {
                for (int m = 0; m < MARKS; m++) {
                    sum += marksOf[c][m];
                }
            }
            return sum;
        }
    }

    /**
     * All glasses with shares 0 .. 2 of each cask: a glass's number has its shares as digits to the
     * base 3, cask 0's ahead, so that the order of numbers is the order by shares of cask 0, 1, ..
     * Number 0 is the glass of nothing, which is never counted.
     */
    private static final class Glasses {
        int casks;
        int many;
        final int[][] tastes = new int[MARKS][GLASSES];
        final int[] parts = new int[GLASSES];

        void mixAll(Cellar cellar) {
            casks = cellar.casks;
            many = POWERS[casks];
            // from the last cask on, each glass is one with a share less and that share
            for (int c = casks - 1; c >= 0; c--) {
                int share = POWERS[casks - 1 - c];
                for (int g = share; g < 3 * share; g++) {
                    parts[g] = parts[g - share] + 1;
                    for (int m = 0; m < MARKS; m++) {
                        tastes[m][g] = tastes[m][g - share] + cellar.tastesOf[c][m];
                    }
                }
            }
            cutAll();
        }

        private void cutAll() {
            for (int g = 1; g < many; g++) {
                int all = parts[g];
                for (int m = 0; m < MARKS && all > 0; m++) {
                    tastes[m][g] /= all;
                }
            }
        }

        int shareOf(int number, int cask) {
            if (cask < 0 || cask >= casks) {
                return 0;
            }
            return number / POWERS[casks - 1 - cask] % 3;
        }

        private boolean isIn(Window window, int number) {
            for (int m = 0; m < MARKS; m++) {
                int taste = tastes[m][number];
                if (taste < window.low[m] || taste > window.high[m]) {
                    return false;
                }
            }
            return true;
        }

        int countIn(Window window) {
            int all = 0;
            for (int g = 1; g < many; g++) {
                if (isIn(window, g)) {
                    all++;
                }
            }
            return all;
        }

        int countWith(Window window, int cask) {
            int all = 0;
            for (int g = 1; g < many; g++) {
                if (isIn(window, g) && shareOf(g, cask) > 0) {
                    all++;
                }
            }
            return all;
        }

        int firstIn(Window window) {
            for (int g = 1; g < many; g++) {
                if (isIn(window, g)) {
                    return g;
                }
            }
            return 0;
        }

        int fewestParts(Window window) {
            int fewest = NONE;
            for (int g = 1; g < many; g++) {
                if (isIn(window, g) && (fewest == NONE || parts[g] < fewest)) {
                    fewest = parts[g];
                }
            }
            return fewest;
        }

        int distance(int number, int[] row) {
            int sum = 0;
            for (int m = 0; m < MARKS; m++) {
                sum += Math.abs(tastes[m][number] - row[m]);
            }
            return sum;
        }
    }

    /** The tastes that some tasters tell all the same: of each mark from low to high. */
    private static final class Window {
        final int[] low = new int[MARKS];
        final int[] high = new int[MARKS];

        void open() {
            Arrays.fill(low, 0);
            Arrays.fill(high, TASTE_TOP);
        }

        void narrow(int mark, int taste, int blunt) {
            int from = told(taste, blunt);
            low[mark] = Math.max(low[mark], from);
            high[mark] = Math.min(high[mark], from + blunt);
        }
    }

    /** The letters in which a cellar is told. */
    private static final class Text {
        int many;
        private final int[] letters = new int[MOST_LETTERS];

        void append(int letter) {
            if (many < MOST_LETTERS) {
                letters[many] = letter;
                many++;
            }
        }

        /** How many statements came, or the fault. */
        int readInto(Cellar cellar) {
            int wrong = wrongLetter();
            if (wrong >= 0) {
                return -1000 - wrong;
            }
            int statements = 0;
            int at = 0;
            while (at < many) {
                if (!comesInto(cellar, at)) {
                    return -2000 - at;
                }
                statements++;
                at += 1 + lettersBehind(letters[at]);
            }
            return statements;
        }

        private int wrongLetter() {
            int left = 0;
            for (int at = 0; at < many; at++) {
                int letter = letters[at];
                if (left == 0) {
                    left = lettersBehind(letter);
                    if (left == 0) {
                        return at;
                    }
                } else {
                    boolean right = left == 1 ? letter == ';' : letter >= '0' && letter <= '9';
                    if (!right) {
                        return at;
                    }
                    left--;
                }
            }
            return left > 0 || many == 0 ? many : -1;
        }

        private static int lettersBehind(int letter) {
            switch (letter) {
                case 'c':
                    return 7;
                case 's':
                    return 3;
                case 't':
                    return 5;
                case 'm':
                    return 4;
                default:
                    return 0;
            }
        }

        private int digit(int at) {
            return at < many ? letters[at] - '0' : 0;
        }

        private boolean comesInto(Cellar cellar, int at) {
            switch (letters[at]) {
                case 'c':
                    return caskComes(cellar, at + 1);
                case 's':
                    return shareComes(cellar, at + 1);
                case 't':
                    return tasterComes(cellar, at + 1);
                default:
                    return markComes(cellar, at + 1);
            }
        }

        private boolean caskComes(Cellar cellar, int at) {
            int kind = digit(at);
            if (!isKind(kind) || cellar.casks >= MOST_CASKS) {
                return false;
            }
            int marks = 0;
            for (int m = 0; m < MARKS; m++) {
                marks = 10 * marks + digit(at + 2 + m);
            }
            cellar.addCask(kind, digit(at + 1), marks);
            return true;
        }

        private boolean shareComes(Cellar cellar, int at) {
            int cask = digit(at);
            if (!cellar.hasCask(cask)) {
                return false;
            }
            cellar.shareOf[cask] = digit(at + 1);
            return true;
        }

        private boolean tasterComes(Cellar cellar, int at) {
            int marks = 10 * digit(at) + digit(at + 1);
            if (marks < 1 || marks > TONGUES || cellar.tasters >= MOST_TASTERS) {
                return false;
            }
            cellar.addTaster(marks, digit(at + 2), digit(at + 3));
            return true;
        }

        private boolean markComes(Cellar cellar, int at) {
            int cask = digit(at);
            int mark = digit(at + 1);
            if (!cellar.hasCask(cask) || !isMark(mark)) {
                return false;
            }
            cellar.marksOf[cask][mark] = digit(at + 2);
            return true;
        }
    }

    /** What the latest changes found, the oldest first: a mark by its number, a share, a kind. */
    private static final class History {
        static final int SHARE = -1;
        static final int KIND = MARKS;

        int many;
        private final int[] casks = new int[MOST_BACK];
        private final int[] fields = new int[MOST_BACK];
        private final int[] values = new int[MOST_BACK];

        void keep(int cask, int field, int was) {
            if (many >= MOST_BACK) {
                dropOldest();
            }
            casks[many] = cask;
            fields[many] = field;
            values[many] = was;
            many++;
        }

        private void dropOldest() {
            System.arraycopy(casks, 1, casks, 0, MOST_BACK - 1);
            System.arraycopy(fields, 1, fields, 0, MOST_BACK - 1);
            System.arraycopy(values, 1, values, 0, MOST_BACK - 1);
            many = MOST_BACK - 1;
        }

        void undoLatest(Cellar cellar) {
            if (many < 1) {
                return;
            }
            many--;
            int cask = casks[many];
            int field = fields[many];
            int was = values[many];
            if (!cellar.hasCask(cask)) {
                return;
            }
            if (field == SHARE) {
                cellar.shareOf[cask] = was;
            } else if (field == KIND) {
                cellar.kindOf[cask] = was / 10;
                cellar.figureOf[cask] = was % 10;
            } else if (isMark(field)) {
                cellar.marksOf[cask][field] = was;
            }
        }
    }

    /** The orders of a few numbers, one behind the other as in a dictionary. */
    private static final class Line {
        int many;
        final int[] at = new int[MOST_ORDERED];

        void start(int numbers) {
            many = Math.min(numbers, MOST_ORDERED);
            for (int p = 0; p < MOST_ORDERED; p++) {
                at[p] = p;
            }
        }

        boolean goOn() {
            int left = many - 2;
            while (left >= 0 && at[left] > at[left + 1]) {
                left--;
            }
            if (left < 0) {
                return false;
            }
            int right = many - 1;
            while (right > left && at[right] < at[left]) {
                right--;
            }
            swap(left, right);
            for (int a = left + 1, b = many - 1; a < b; a++, b--) {
                swap(a, b);
            }
            return true;
        }

        private void swap(int a, int b) {
            int kept = at[a];
            at[a] = at[b];
            at[b] = kept;
        }
    }
}
