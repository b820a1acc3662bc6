import java.util.NoSuchElementException;

/** The copying arms: an office of arms and maps, told on a tape, worked by hand and asked. */
public final class CopyArms {
    public static final int NONE = -1;

    private static final int MOST_SIGNS = 1000;
    private static final int MOST_ARMS = 6;
    private static final int MOST_HOLES = 4;
    private static final int MOST_MAPS = 7;
    private static final int MOST_POINTS = 6;
    private static final int MOST_CHAINED = 4;
    private static final int MOST_FITTED = 3;
    private static final int MARKS = 4;
    private static final int CORNERS = 4;

    private static final int LARGEST_HOLE = 9;
    private static final int LAST_QUARTER = 3;
    private static final int FARTHEST_PIN = 99;
    private static final int LONGEST_REACH = 200;
    private static final int WIDEST_BEND = 9;
    private static final int FARTHEST_TRACED = 9999;
    private static final int FARTHEST_SEEN = 999;
    private static final int LARGEST_FITTED = 999;

    private static final int PLAIN = 0;
    private static final int MIRROR = 1;
    private static final int STIFF = 2;
    private static final int LOOSE = 3;

    private static final int[] CORNER_X = {0, 10, 10, 0};
    private static final int[] CORNER_Y = {0, 0, 10, 10};

    private final Tape tape;
    private Office current;
    private Office spare;
    private final Setting now;
    private final Setting[] marks;
    private int laid;
    private final Spot spot;
    private final Shaking shaking;
    private final Ordering ordering;
    private final Fitting fitting;
    private final Cover cover;
    private final Ancestry ancestry;

    public CopyArms() {
        tape = new Tape();
        current = new Office();
        spare = new Office();
        now = new Setting();
        marks = new Setting[MARKS];
        for (int mark = 0; mark < MARKS; mark++) {
            marks[mark] = new Setting();
        }
        laid = 0;
        spot = new Spot();
        shaking = new Shaking();
        ordering = new Ordering();
        fitting = new Fitting();
        cover = new Cover();
        ancestry = new Ancestry();
    }

    public int feed(long a, long b, long c) {
        tape.add(a);
        tape.add(b);
        tape.add(c);
        return tape.length;
    }

    public int office() {
        int fault = tape.readOffice(spare);
        tape.length = 0;
        if (fault == 0) {
            Office told = spare;
            spare = current;
            current = told;
            now.begin(current);
            laid = 0;
        }
        return fault;
    }

    public int arm(int arm, int what) {
        if (!current.hasArm(arm)) {
            return NONE;
        }
        switch (what) {
            case 0: return current.arms[arm].kind;
            case 1: return now.holeP[arm];
            case 2: return now.holeQ[arm];
            case 3: return now.quarters[arm];
            case 4: return now.pinX[arm];
            case 5: return now.pinY[arm];
            case 6: return current.arms[arm].reach;
            case 7: return current.arms[arm].shake;
            case 8: return now.tenths[arm];
            case 9: return current.arms[arm].holeCount;
            default: return NONE;
        }
    }

    public int hole(int arm, int i) {
        return current.hasHole(arm, i) ? current.arms[arm].holes[i] : NONE;
    }

    public int map(int map, int what) {
        if (!current.hasChart(map)) {
            return NONE;
        }
        Chart chart = current.charts[map];
        switch (what) {
            case 0: return (int) inLowestTerms(chart.above, chart.below);
            case 1: return (int) inLowestTerms(chart.below, chart.above);
            case 2: return chart.slips;
            case 3: return chart.pointCount;
            default: return NONE;
        }
    }

    public int point(int map, int i, boolean y) {
        if (!current.hasChart(map)) {
            return NONE;
        }
        Chart chart = current.charts[map];
        if (i < 0 || i >= chart.pointCount) {
            return NONE;
        }
        return y ? chart.pointY[i] : chart.pointX[i];
    }

    public boolean set(int arm, int i, int j) {
        if (!current.hasHole(arm, i) || !current.hasHole(arm, j) || i == j) {
            return false;
        }
        now.holeP[arm] = current.arms[arm].holes[i];
        now.holeQ[arm] = current.arms[arm].holes[j];
        return true;
    }

    public boolean turn(int arm, int quarters) {
        if (!current.hasArm(arm) || !isWithin(quarters, 0, LAST_QUARTER)) {
            return false;
        }
        if (current.arms[arm].kind == STIFF) {
            return false;
        }
        now.quarters[arm] = quarters;
        return true;
    }

    public boolean pin(int arm, int x, int y) {
        if (!current.hasArm(arm) || !isWithin(x, 0, FARTHEST_PIN) || !isWithin(y, 0, FARTHEST_PIN)) {
            return false;
        }
        now.pinX[arm] = x;
        now.pinY[arm] = y;
        return true;
    }

    public boolean bend(int arm, int tenths) {
        if (!current.hasArm(arm) || !isWithin(tenths, 0, WIDEST_BEND)) {
            return false;
        }
        now.tenths[arm] = tenths;
        return true;
    }

    public long trace(int arm, int x, int y, int what) throws NoSuchElementException {
        if (!current.hasArm(arm) || !canBeTraced(x, y) || !isWithin(what, 0, 3)) {
            throw new NoSuchElementException("no such arm, point or part");
        }
        spot.begin(x, y);
        if (spot.isOut(current, now, arm)) {
            throw new NoSuchElementException("out of reach");
        }
        spot.copyBy(current, now, arm, now.tenths[arm]);
        return spot.part(what);
    }

    public int chain(int arm) {
        if (arm < 0) {
            now.chained = 0;
            return 0;
        }
        if (!current.hasArm(arm) || now.hasChained(arm) || now.chained >= MOST_CHAINED) {
            return NONE;
        }
        now.chain[now.chained] = arm;
        now.chained++;
        return now.chained;
    }

    public int size(int what) {
        switch (what) {
            case 0: return (int) inLowestTerms(chainProduct(now.holeP), chainProduct(now.holeQ));
            case 1: return (int) inLowestTerms(chainProduct(now.holeQ), chainProduct(now.holeP));
            case 2: return chainQuarters();
            case 3: return chainMirrors() % 2;
            default: return NONE;
        }
    }

    public long draw(int x, int y, int what) throws NoSuchElementException {
        if (!canBeTraced(x, y) || !isWithin(what, 0, 3)) {
            throw new NoSuchElementException("no such point or part");
        }
        if (!passChain(x, y)) {
            throw new NoSuchElementException("out of reach");
        }
        return spot.part(what);
    }

    public int outs(int map) {
        if (!current.hasChart(map)) {
            return NONE;
        }
        Chart chart = current.charts[map];
        int bits = 0;
        for (int i = 0; i < chart.pointCount; i++) {
            if (!passChain(chart.pointX[i], chart.pointY[i])) {
                bits |= 1 << i;
            }
        }
        return bits;
    }

    public int fitted(int above, int below, int what) {
        if (!isWithin(above, 1, LARGEST_FITTED) || !isWithin(below, 1, LARGEST_FITTED)) {
            return NONE;
        }
        if (!isWithin(what, 0, 2) || !fitting.find(current, above, below)) {
            return NONE;
        }
        return what == 0 ? fitting.armCount : what == 1 ? fitting.ways : fitting.leastArms;
    }

    public boolean see(int corner, int x, int y) {
        if (!isWithin(corner, 0, CORNERS - 1)) {
            return false;
        }
        if (!isWithin(x, -FARTHEST_SEEN, FARTHEST_SEEN) || !isWithin(y, -FARTHEST_SEEN, FARTHEST_SEEN)) {
            return false;
        }
        now.seenX[corner] = x;
        now.seenY[corner] = y;
        now.seen |= 1 << corner;
        return true;
    }

    public boolean clear() {
        now.seen = 0;
        return true;
    }

    public int suspects() {
        if (now.seen == 0) {
            return NONE;
        }
        int bits = 0;
        for (int arm = 0; arm < current.armCount; arm++) {
            if (isWithin(leastBend(arm), -WIDEST_BEND, WIDEST_BEND)) {
                bits |= 1 << arm;
            }
        }
        return bits;
    }

    public int crooked(int arm) throws NoSuchElementException {
        if (now.seen == 0 || !current.hasArm(arm)) {
            throw new NoSuchElementException("no such arm, or no corner seen");
        }
        int tenths = leastBend(arm);
        if (!isWithin(tenths, -WIDEST_BEND, WIDEST_BEND)) {
            throw new NoSuchElementException("no suspect");
        }
        return tenths;
    }

    public long shakes(int what) {
        if (!isWithin(what, 0, 1)) {
            return NONE;
        }
        shaking.sum(current, now, now.chain);
        return shaking.part(what);
    }

    public long steadiest(int what) {
        if (what < 0 || what >= 2 + now.chained) {
            return NONE;
        }
        ordering.find(current, now);
        return what < 2 ? ordering.least.part(what) : ordering.best[what - 2];
    }

    public int sheets(int map, int reach) {
        if (!current.hasChart(map) || !isWithin(reach, 0, LONGEST_REACH)) {
            return NONE;
        }
        return cover.fewestPins(current.charts[map], reach);
    }

    public int descent(int what) {
        if (what < 0 || what >= 2 + current.chartCount || !ancestry.find(current, now)) {
            return NONE;
        }
        return what == 0 ? ancestry.cost() : what == 1 ? ancestry.first() : ancestry.parent(what - 2);
    }

    public boolean mark(int mark, boolean back) {
        if (!isWithin(mark, 0, MARKS - 1)) {
            return false;
        }
        if (!back) {
            marks[mark].copyFrom(now);
            laid |= 1 << mark;
            return true;
        }
        if ((laid & 1 << mark) == 0) {
            return false;
        }
        now.copyFrom(marks[mark]);
        return true;
    }

    public int count(int what) {
        switch (what) {
            case 0: return current.armCount;
            case 1: return current.chartCount;
            case 2: return now.chained;
            case 3: return Integer.bitCount(now.seen);
            case 4: return tape.length;
            default: return NONE;
        }
    }

    private static boolean isWithin(int number, int least, int most) {
        return number >= least && number <= most;
    }

    private static boolean canBeTraced(int x, int y) {
        return isWithin(x, -FARTHEST_TRACED, FARTHEST_TRACED) && isWithin(y, -FARTHEST_TRACED, FARTHEST_TRACED);
    }

    /** One of two numbers, as it stands in the fraction that they make in lowest terms. */
    private static long inLowestTerms(long wanted, long other) {
        long divisor = commonDivisor(Math.abs(wanted), Math.abs(other));
        return divisor == 0 ? wanted : wanted / divisor;
    }

    private static long commonDivisor(long a, long b) {
        long larger = a;
        long smaller = b;
        // Two longs need no more than some 90 divisions.
        for (int step = 0; step < 200 && smaller != 0; step++) {
            long rest = larger % smaller;
            larger = smaller;
            smaller = rest;
        }
        return larger;
    }

    private long chainProduct(int[] holes) {
        long product = 1;
        for (int i = 0; i < now.chained; i++) {
            product *= holes[now.chain[i]];
        }
        return product;
    }

    private int chainQuarters() {
        int sum = 0;
        for (int i = 0; i < now.chained; i++) {
            sum += now.quarters[now.chain[i]];
        }
        return sum % 4;
    }

    private int chainMirrors() {
        int mirrors = 0;
        for (int i = 0; i < now.chained; i++) {
            if (current.arms[now.chain[i]].kind == MIRROR) {
                mirrors++;
            }
        }
        return mirrors;
    }

    /** Leaves in the spot what the chain draws; false if it is out of reach of one of its arms. */
    private boolean passChain(int x, int y) {
        spot.begin(x, y);
        for (int i = 0; i < now.chained; i++) {
            int arm = now.chain[i];
            if (spot.isOut(current, now, arm)) {
                return false;
            }
            spot.copyBy(current, now, arm, now.tenths[arm]);
        }
        return true;
    }

    /** The least bend by which an arm draws all that is seen; one beyond the widest if there is none. */
    private int leastBend(int arm) {
        int tenths = -WIDEST_BEND;
        while (tenths <= WIDEST_BEND && !drawsAllSeen(arm, tenths)) {
            tenths++;
        }
        return tenths;
    }

    private boolean drawsAllSeen(int arm, int tenths) {
        for (int corner = 0; corner < CORNERS; corner++) {
            if ((now.seen & 1 << corner) != 0) {
                spot.begin(CORNER_X[corner], CORNER_Y[corner]);
                spot.copyBy(current, now, arm, tenths);
                if (!spot.isAt(now.seenX[corner], now.seenY[corner])) {
                    return false;
                }
            }
        }
        return true;
    }

    /** An arm as it was told; what hands change of it is kept in a Setting. */
    private static final class Arm {
        long name;
        int kind;
        final int[] holes = new int[MOST_HOLES];
        int holeCount;
        int quarters;
        int pinX;
        int pinY;
        int reach;
        int shake;
        int tenths;

        boolean hasHoleOf(long number) {
            for (int i = 0; i < holeCount; i++) {
                if (holes[i] == number) {
                    return true;
                }
            }
            return false;
        }

        int shakeOfHand() {
            return kind == LOOSE ? 2 * shake : shake;
        }
    }

    /** A map as it was told. */
    private static final class Chart {
        long name;
        int above;
        int below;
        int slips;
        final int[] pointX = new int[MOST_POINTS];
        final int[] pointY = new int[MOST_POINTS];
        int pointCount;
    }

    private static final class Office {
        final Arm[] arms = new Arm[MOST_ARMS];
        final Chart[] charts = new Chart[MOST_MAPS];
        int armCount;
        int chartCount;

        Office() {
            for (int arm = 0; arm < MOST_ARMS; arm++) {
                arms[arm] = new Arm();
            }
            for (int chart = 0; chart < MOST_MAPS; chart++) {
                charts[chart] = new Chart();
            }
        }

        boolean hasArm(int arm) {
            return arm >= 0 && arm < armCount;
        }

        boolean hasHole(int arm, int i) {
            return hasArm(arm) && i >= 0 && i < arms[arm].holeCount;
        }

        boolean hasChart(int chart) {
            return chart >= 0 && chart < chartCount;
        }

        boolean hasName(long name) {
            for (int arm = 0; arm < armCount; arm++) {
                if (arms[arm].name == name) {
                    return true;
                }
            }
            for (int chart = 0; chart < chartCount; chart++) {
                if (charts[chart].name == name) {
                    return true;
                }
            }
            return false;
        }
    }

    /**
     * The signs that have been fed and not been read. They are read from left to right; behind the first fault no
     * more is read, so that this one stays.
     */
    private static final class Tape {
        private static final int MOST_LETTERS = 8;
        private static final int MOST_DIGITS = 4;

        private static final int END = 0;
        private static final int WORD = 1;
        private static final int NUMBER = 2;
        private static final int SIGN = 3;
        private static final int NO_TOKEN = 4;

        private static final int MISPLACED = 1;
        private static final int TOLD_ALREADY = 3;
        private static final int NOT_AS_TOLD = 4;
        private static final int TOO_MANY = 5;

        int length;
        private final char[] signs = new char[MOST_SIGNS];
        private int place;
        private int behind;
        private int token;
        private long value;
        private int fault;

        void add(long eightSigns) {
            for (int shift = 56; shift >= 0; shift -= 8) {
                char sign = (char) (eightSigns >>> shift & 255);
                boolean isSign = sign == 10 || sign >= 32 && sign <= 126;
                if (isSign && length < MOST_SIGNS) {
                    signs[length] = sign;
                    length++;
                }
            }
        }

        /** 0, or the fault; the office is whole only without one. */
        int readOffice(Office into) {
            into.armCount = 0;
            into.chartCount = 0;
            fault = 0;
            behind = 0;
            advance();
            // One round more than there may be arms and maps: it finds the one too many.
            for (int told = 0; told <= MOST_ARMS + MOST_MAPS && fault == 0 && token != END; told++) {
                if (reads("arm")) {
                    readArm(into);
                } else if (reads("map")) {
                    readChart(into);
                } else {
                    fail(MISPLACED);
                }
            }
            return fault;
        }

        private void readArm(Office into) {
            if (into.armCount >= MOST_ARMS) {
                fail(TOO_MANY);
                return;
            }
            Arm arm = into.arms[into.armCount];
            advance();
            arm.name = readName(into);
            arm.kind = readKind();
            readHoles(arm);
            arm.quarters = readNumberBehind("turn", 0, LAST_QUARTER);
            arm.pinX = readNumberBehind("at", 0, FARTHEST_PIN);
            arm.pinY = readNumber(0, FARTHEST_PIN);
            arm.reach = readNumberBehind("reach", 1, LONGEST_REACH);
            arm.shake = readNumberBehind("shake", 0, 9);
            arm.tenths = reads("bend") ? readNumberBehind("bend", 0, WIDEST_BEND) : 0;
            skipSign(';');
            into.armCount++;
        }

        private void readChart(Office into) {
            if (into.chartCount >= MOST_MAPS) {
                fail(TOO_MANY);
                return;
            }
            Chart chart = into.charts[into.chartCount];
            advance();
            chart.name = readName(into);
            chart.above = readNumberBehind("size", 1, 9);
            chart.below = readNumberBehind("to", 1, 9);
            chart.slips = readNumberBehind("slips", 0, 255);
            readPoints(chart);
            skipSign(';');
            into.chartCount++;
        }

        private long readName(Office into) {
            if (fault != 0) {
                return 0;
            }
            if (token != WORD || isReserved() || kindHere() != NONE) {
                fail(MISPLACED);
                return 0;
            }
            if (into.hasName(value)) {
                fail(TOLD_ALREADY);
                return 0;
            }
            long name = value;
            advance();
            return name;
        }

        private int readKind() {
            if (fault != 0) {
                return PLAIN;
            }
            int kind = kindHere();
            if (kind == NONE) {
                fail(MISPLACED);
                return PLAIN;
            }
            advance();
            return kind;
        }

        private void readHoles(Arm arm) {
            skipWord("holes");
            arm.holeCount = 0;
            // A fifth number is looked at, too: it may be wrong otherwise than by being one too many.
            for (int i = 0; i <= MOST_HOLES && fault == 0; i++) {
                if (i >= 2 && token != NUMBER) {
                    return;
                }
                if (token == NUMBER && arm.hasHoleOf(value)) {
                    fail(TOLD_ALREADY);
                } else if (i == MOST_HOLES && value >= 1 && value <= LARGEST_HOLE) {
                    fail(TOO_MANY);
                }
                int hole = readNumber(1, LARGEST_HOLE);
                if (fault == 0 && arm.holeCount < MOST_HOLES) {
                    arm.holes[arm.holeCount] = hole;
                    arm.holeCount++;
                }
            }
        }

        private void readPoints(Chart chart) {
            skipWord("points");
            chart.pointCount = 0;
            for (int i = 0; i < MOST_POINTS && fault == 0; i++) {
                chart.pointX[i] = readNumber(0, FARTHEST_PIN);
                chart.pointY[i] = readNumber(0, FARTHEST_PIN);
                chart.pointCount++;
                if (!isSignHere(',')) {
                    return;
                }
                if (chart.pointCount == MOST_POINTS) {
                    fail(TOO_MANY);
                }
                skipSign(',');
            }
        }

        private int readNumberBehind(String word, int least, int most) {
            skipWord(word);
            return readNumber(least, most);
        }

        private int readNumber(int least, int most) {
            if (fault != 0) {
                return least;
            }
            if (token != NUMBER) {
                fail(MISPLACED);
                return least;
            }
            if (value < least || value > most) {
                fail(NOT_AS_TOLD);
                return least;
            }
            int number = (int) value;
            advance();
            return number;
        }

        private void skipWord(String word) {
            if (fault != 0) {
                return;
            }
            if (reads(word)) {
                advance();
            } else {
                fail(MISPLACED);
            }
        }

        private void skipSign(char sign) {
            if (fault != 0) {
                return;
            }
            if (isSignHere(sign)) {
                advance();
            } else {
                fail(MISPLACED);
            }
        }

        private boolean isSignHere(char sign) {
            return token == SIGN && value == sign;
        }

        private boolean reads(String word) {
            return token == WORD && value == packed(word);
        }

        private int kindHere() {
            return reads("plain") ? PLAIN : reads("mirror") ? MIRROR : reads("stiff") ? STIFF : reads("loose") ? LOOSE : NONE;
        }

        private boolean isReserved() {
            return reads("arm") || reads("holes") || reads("turn") || reads("at") || reads("reach") || reads("shake")
                || reads("bend") || reads("map") || reads("size") || reads("to") || reads("slips") || reads("points");
        }

        private void fail(int kind) {
            if (fault == 0) {
                fault = kind + 16 * place;
            }
        }

        private void advance() {
            place = behind;
            while (place < length && isBlank(signs[place])) {
                place++;
            }
            behind = place + 1;
            if (place >= length) {
                token = END;
                behind = place;
            } else if (isLetter(signs[place])) {
                scanWord();
            } else if (isDigit(signs[place])) {
                scanNumber();
            } else {
                value = signs[place];
                token = value == ',' || value == ';' ? SIGN : NO_TOKEN;
            }
        }

        private void scanWord() {
            behind = place;
            value = 0;
            while (behind < length && isLetter(signs[behind])) {
                value = value * 32 + (signs[behind] - 'a' + 1);
                behind++;
            }
            token = behind - place <= MOST_LETTERS ? WORD : NO_TOKEN;
        }

        private void scanNumber() {
            behind = place;
            value = 0;
            while (behind < length && isDigit(signs[behind])) {
                value = value * 10 + (signs[behind] - '0');
                behind++;
            }
            token = behind - place <= MOST_DIGITS ? NUMBER : NO_TOKEN;
        }

        /** A word of up to 8 letters as one number, so that words are compared, and names kept, without texts. */
        private static long packed(String word) {
            long letters = 0;
            for (int i = 0; i < word.length(); i++) {
                letters = letters * 32 + (word.charAt(i) - 'a' + 1);
            }
            return letters;
        }

        private static boolean isBlank(char sign) {
            return sign == 10 || sign == 32;
        }

        private static boolean isLetter(char sign) {
            return sign >= 'a' && sign <= 'z';
        }

        private static boolean isDigit(char sign) {
            return sign >= '0' && sign <= '9';
        }
    }

    /** All that hands change: how the arms are, the chain, the corners seen. */
    private static final class Setting {
        final int[] holeP = new int[MOST_ARMS];
        final int[] holeQ = new int[MOST_ARMS];
        final int[] quarters = new int[MOST_ARMS];
        final int[] pinX = new int[MOST_ARMS];
        final int[] pinY = new int[MOST_ARMS];
        final int[] tenths = new int[MOST_ARMS];
        final int[] chain = new int[MOST_CHAINED];
        int chained;
        final int[] seenX = new int[CORNERS];
        final int[] seenY = new int[CORNERS];
        int seen;

        void begin(Office office) {
            for (int arm = 0; arm < office.armCount; arm++) {
                Arm told = office.arms[arm];
                holeP[arm] = told.holes[0];
                holeQ[arm] = told.holes[1];
                quarters[arm] = told.quarters;
                pinX[arm] = told.pinX;
                pinY[arm] = told.pinY;
                tenths[arm] = told.tenths;
            }
            chained = 0;
            seen = 0;
        }

        void copyFrom(Setting other) {
            for (int arm = 0; arm < MOST_ARMS; arm++) {
                holeP[arm] = other.holeP[arm];
                holeQ[arm] = other.holeQ[arm];
                quarters[arm] = other.quarters[arm];
                pinX[arm] = other.pinX[arm];
                pinY[arm] = other.pinY[arm];
                tenths[arm] = other.tenths[arm];
            }
            for (int i = 0; i < MOST_CHAINED; i++) {
                chain[i] = other.chain[i];
            }
            chained = other.chained;
            for (int corner = 0; corner < CORNERS; corner++) {
                seenX[corner] = other.seenX[corner];
                seenY[corner] = other.seenY[corner];
            }
            seen = other.seen;
        }

        boolean hasChained(int arm) {
            for (int i = 0; i < chained; i++) {
                if (chain[i] == arm) {
                    return true;
                }
            }
            return false;
        }
    }

    /** A point on its way through arms: x / below, y / below. Through four arms all stays far within a long. */
    private static final class Spot {
        private long x;
        private long y;
        private long below;

        void begin(int startX, int startY) {
            x = startX;
            y = startY;
            below = 1;
        }

        boolean isOut(Office office, Setting now, int arm) {
            long dx = x - now.pinX[arm] * below;
            long dy = y - now.pinY[arm] * below;
            return Math.abs(dx) + Math.abs(dy) > office.arms[arm].reach * below;
        }

        /** Draws as the arm does, whether it reaches or not; the bend is told because a suspect's is tried. */
        void copyBy(Office office, Setting now, int arm, int tenths) {
            long dx = x - now.pinX[arm] * below;
            long dy = y - now.pinY[arm] * below;
            if (office.arms[arm].kind == MIRROR) {
                dx = -dx;
            }
            for (int quarter = 0; quarter < now.quarters[arm]; quarter++) {
                long across = dx;
                dx = -dy;
                dy = across;
            }
            dx = (10 * dx + tenths * dy) * now.holeP[arm];
            dy = 10 * dy * now.holeP[arm];
            below = 10 * below * now.holeQ[arm];
            x = now.pinX[arm] * below + dx;
            y = now.pinY[arm] * below + dy;
        }

        boolean isAt(int wholeX, int wholeY) {
            return x == wholeX * below && y == wholeY * below;
        }

        /** 0, 1: x, above and below; 2, 3: y. */
        long part(int what) {
            long above = what < 2 ? x : y;
            return what % 2 == 0 ? inLowestTerms(above, below) : inLowestTerms(below, above);
        }
    }

    /** How far a row of arms shakes: above / below. */
    private static final class Shaking {
        long above;
        long below;

        void sum(Office office, Setting now, int[] order) {
            above = 0;
            below = 1;
            for (int i = 0; i < now.chained && i < order.length; i++) {
                int arm = order[i];
                above = (above + office.arms[arm].shakeOfHand() * below) * now.holeP[arm];
                below = below * now.holeQ[arm];
            }
        }

        boolean isLessThan(Shaking other) {
            return above * other.below < other.above * below;
        }

        void copyFrom(Shaking other) {
            above = other.above;
            below = other.below;
        }

        long part(int what) {
            return what == 0 ? inLowestTerms(above, below) : inLowestTerms(below, above);
        }
    }

    /** Tries all orders of the chain's arms, the first by number first. */
    private static final class Ordering {
        final int[] best = new int[MOST_CHAINED];
        final Shaking least = new Shaking();
        private final int[] order = new int[MOST_CHAINED];
        private final Shaking tried = new Shaking();
        private boolean isFound;

        void find(Office office, Setting now) {
            isFound = false;
            lay(office, now, 0);
        }

        private void lay(Office office, Setting now, int depth) {
            if (depth >= now.chained || depth >= MOST_CHAINED) {
                compare(office, now);
                return;
            }
            for (int arm = 0; arm < office.armCount; arm++) {
                if (now.hasChained(arm) && !isLaid(arm, depth)) {
                    order[depth] = arm;
                    lay(office, now, depth + 1);
                }
            }
        }

        private boolean isLaid(int arm, int depth) {
            for (int i = 0; i < depth; i++) {
                if (order[i] == arm) {
                    return true;
                }
            }
            return false;
        }

        /** Only what is less takes the place, so that of equal orders the first one stays. */
        private void compare(Office office, Setting now) {
            tried.sum(office, now, order);
            if (!isFound || tried.isLessThan(least)) {
                isFound = true;
                least.copyFrom(tried);
                for (int i = 0; i < MOST_CHAINED; i++) {
                    best[i] = order[i];
                }
            }
        }
    }

    /** The fewest arms whose sizes, multiplied, might be just so much. */
    private static final class Fitting {
        int armCount;
        int ways;
        int leastArms;

        boolean find(Office office, int above, int below) {
            for (int wanted = 0; wanted <= MOST_FITTED; wanted++) {
                armCount = wanted;
                ways = 0;
                leastArms = 0;
                for (int chosen = 0; chosen < 1 << office.armCount; chosen++) {
                    if (Integer.bitCount(chosen) == wanted) {
                        add(chosen, waysOf(office, chosen, above, below));
                    }
                }
                if (ways > 0) {
                    return true;
                }
            }
            return false;
        }

        /** Sets of arms come with their bits rising: the first that fits is the least. */
        private void add(int chosen, int found) {
            if (ways == 0 && found > 0) {
                leastArms = chosen;
            }
            ways += found;
        }

        /** Each level takes one arm away; at most MOST_FITTED are chosen. */
        private static int waysOf(Office office, int chosen, long above, long below) {
            if (chosen == 0) {
                return above == below ? 1 : 0;
            }
            int next = 0;
            while (next < MOST_ARMS - 1 && (chosen & 1 << next) == 0) {
                next++;
            }
            Arm arm = office.arms[next];
            int rest = chosen & ~(1 << next);
            if (rest == 0) {
                return waysOfLast(arm, above, below);
            }
            int found = 0;
            for (int i = 0; i < arm.holeCount; i++) {
                for (int j = 0; j < arm.holeCount; j++) {
                    if (i != j) {
                        found += waysOf(office, rest, above * arm.holes[j], below * arm.holes[i]);
                    }
                }
            }
            return found;
        }

        /** With one arm left a hole tells which other one it needs: not all pairs have to be tried. */
        private static int waysOfLast(Arm arm, long above, long below) {
            int found = 0;
            for (int j = 0; j < arm.holeCount; j++) {
                int q = arm.holes[j];
                if (below > 0 && above * q % below == 0) {
                    long p = above * q / below;
                    if (p != q && arm.hasHoleOf(p)) {
                        found++;
                    }
                }
            }
            return found;
        }
    }

    /** In how few settings of a pin all points of a map are reached. */
    private static final class Cover {
        private final boolean[] isOneSheet = new boolean[1 << MOST_POINTS];
        private final int[] fewest = new int[1 << MOST_POINTS];

        int fewestPins(Chart chart, int reach) {
            int sets = 1 << chart.pointCount;
            for (int set = 1; set < sets; set++) {
                isOneSheet[set] = reachesAll(chart, set, reach);
            }
            fewest[0] = 0;
            for (int set = 1; set < sets; set++) {
                fewest[set] = fewestOf(set);
            }
            return fewest[sets - 1];
        }

        private int fewestOf(int set) {
            int least = MOST_POINTS;
            for (int sheet = 1; sheet <= set; sheet++) {
                if ((sheet & ~set) == 0 && isOneSheet[sheet]) {
                    least = Math.min(least, 1 + fewest[set & ~sheet]);
                }
            }
            return least;
        }

        /**
         * Whether one pin reaches all points of a set. Along the two diagonals, x + y and x - y, its bounds do not
         * depend on each other, but both are even or both odd: that matters only where neither leaves a choice.
         * That a pin stands within 0 to 99 needs no look: the points do, and from outside one comes nearer to all.
         */
        private static boolean reachesAll(Chart chart, int set, int reach) {
            int leastSum = 2 * FARTHEST_PIN;
            int mostSum = 0;
            int leastDifference = FARTHEST_PIN;
            int mostDifference = -FARTHEST_PIN;
            for (int i = 0; i < chart.pointCount; i++) {
                if ((set & 1 << i) != 0) {
                    int sum = chart.pointX[i] + chart.pointY[i];
                    int difference = chart.pointX[i] - chart.pointY[i];
                    leastSum = Math.min(leastSum, sum);
                    mostSum = Math.max(mostSum, sum);
                    leastDifference = Math.min(leastDifference, difference);
                    mostDifference = Math.max(mostDifference, difference);
                }
            }
            int slackOfSum = 2 * reach - (mostSum - leastSum);
            int slackOfDifference = 2 * reach - (mostDifference - leastDifference);
            if (slackOfSum < 0 || slackOfDifference < 0) {
                return false;
            }
            return slackOfSum > 0 || slackOfDifference > 0 || (mostSum - mostDifference) % 2 == 0;
        }
    }

    /**
     * From which first map all others were copied. Cost and row are kept as one number, the cost ahead, then the
     * first map, then from which each map is, as digits to the base 7: the least number is the least cost with the
     * least row, and adding a copy adds its cost and its digit.
     */
    private static final class Ancestry {
        private static final int BASE = 7;
        private static final int[] DIGIT = {117649, 16807, 2401, 343, 49, 7, 1};
        private static final int FIRST_DIGIT = 823543;
        private static final int COST_UNIT = 5764801;
        private static final int IMPOSSIBLE = 2147483647;

        private final int[][] price = new int[MOST_MAPS][MOST_MAPS];
        private final int[] least = new int[1 << MOST_MAPS];
        private int found;

        boolean find(Office office, Setting now) {
            int maps = office.chartCount;
            if (maps == 0) {
                return false;
            }
            for (int from = 0; from < maps; from++) {
                for (int to = 0; to < maps; to++) {
                    price[from][to] = priceOf(office, now, from, to);
                }
            }
            for (int set = 1; set < 1 << maps; set++) {
                least[set] = leastOf(set, maps);
            }
            found = least[(1 << maps) - 1];
            return found != IMPOSSIBLE;
        }

        int cost() {
            return found / COST_UNIT;
        }

        int first() {
            return found / FIRST_DIGIT % BASE;
        }

        int parent(int map) {
            return map >= 0 && map < MOST_MAPS ? found / DIGIT[map] % BASE : NONE;
        }

        /** In a set of maps told in full some one was copied and has no copies: it is taken off last. */
        private int leastOf(int set, int maps) {
            int sum = IMPOSSIBLE;
            for (int map = 0; map < maps; map++) {
                if ((set & 1 << map) != 0) {
                    int rest = set & ~(1 << map);
                    int withMap = rest == 0 ? map * FIRST_DIGIT + map * DIGIT[map] : leastWithCopy(rest, map, maps);
                    sum = Math.min(sum, withMap);
                }
            }
            return sum;
        }

        private int leastWithCopy(int rest, int copy, int maps) {
            int cheapest = IMPOSSIBLE;
            for (int from = 0; from < maps; from++) {
                if ((rest & 1 << from) != 0) {
                    cheapest = Math.min(cheapest, price[from][copy]);
                }
            }
            return least[rest] == IMPOSSIBLE || cheapest == IMPOSSIBLE ? IMPOSSIBLE : least[rest] + cheapest;
        }

        private static int priceOf(Office office, Setting now, int from, int to) {
            Chart original = office.charts[from];
            Chart copy = office.charts[to];
            for (int arm = 0; arm < office.armCount; arm++) {
                int drawn = original.above * now.holeP[arm] * copy.below;
                int wanted = copy.above * now.holeQ[arm] * original.below;
                if (from != to && drawn == wanted) {
                    return Integer.bitCount(original.slips ^ copy.slips) * COST_UNIT + from * DIGIT[to];
                }
            }
            return IMPOSSIBLE;
        }
    }
}
