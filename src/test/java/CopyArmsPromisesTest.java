import java.util.NoSuchElementException;

/** The promises one by one, with answers worked out by hand from the document. */
public final class CopyArmsPromisesTest {
    private static final long THROWN = Long.MIN_VALUE;
    private static int wrong = 0;
    private static int asked = 0;

    private static final String ANN = "arm ann plain holes 2 1 turn 0 at 0 0 reach 50 shake 3;";
    private static final String BOB = "arm bob mirror holes 1 2 3 turn 1 at 10 0 reach 60 shake 2;";
    private static final String CAT = "arm cat loose holes 3 2 4 turn 2 at 5 5 reach 40 shake 1 bend 5;";
    private static final String DAN = "arm dan stiff holes 9 8 7 6 turn 3 at 50 99 reach 200 shake 9;";
    private static final String OLD = "map old size 6 to 4 slips 5 points 0 0, 30 0, 99 98;";
    private static final String NEW = "map new size 9 to 9 slips 255 points 10 11;";

    public static void main(String[] args) {
        newObject();
        feed();
        office();
        faultsOfTokens();
        faultsOfArms();
        faultsOfMaps();
        faultsOfCounts();
        arm();
        hole();
        map();
        point();
        set();
        turn();
        pin();
        bend();
        trace();
        chain();
        size();
        draw();
        outs();
        fitted();
        see();
        clear();
        suspects();
        crooked();
        shakes();
        steadiest();
        sheets();
        descent();
        mark();
        count();
        System.out.println(asked + " answers looked at, " + wrong + " wrong");
        if (wrong != 0) {
            System.exit(1);
        }
    }

    private static void due(String what, long got, long want) {
        asked++;
        if (got != want) {
            wrong++;
            System.out.println(what + ": answered " + got + ", due is " + want);
        }
    }

    private static void due(String what, boolean got, boolean want) {
        due(what, got ? 1 : 0, want ? 1 : 0);
    }

    private static void feedText(CopyArms x, String text) {
        for (int start = 0; start < text.length(); start += 24) {
            long[] words = new long[3];
            for (int i = start; i < text.length() && i < start + 24; i++) {
                words[(i - start) / 8] |= (long) text.charAt(i) << 56 - 8 * ((i - start) % 8);
            }
            x.feed(words[0], words[1], words[2]);
        }
    }

    private static int told(CopyArms x, String text) {
        feedText(x, text);
        return x.office();
    }

    private static CopyArms made(String text) {
        CopyArms x = new CopyArms();
        due("office of " + text, told(x, text), 0);
        return x;
    }

    /** The fault is due at the place of the sign ^, which is taken out of the text. */
    private static void dueFault(String text, int kind) {
        int place = text.indexOf('^');
        String plain = text.substring(0, place) + text.substring(place + 1);
        CopyArms x = made("arm q plain holes 1 2 turn 0 at 7 7 reach 9 shake 0; map r size 1 to 1 slips 0 points 1 1;");
        x.chain(0);
        x.see(1, 2, 3);
        x.mark(2, false);
        due("fault of " + plain, told(x, plain), kind + 16L * place);
        due("arms behind a fault", x.count(0), 1);
        due("maps behind a fault", x.count(1), 1);
        due("chain behind a fault", x.count(2), 1);
        due("seen behind a fault", x.count(3), 1);
        due("tape behind a fault", x.count(4), 0);
        due("pin behind a fault", x.arm(0, 4), 7);
        due("point behind a fault", x.point(0, 0, true), 1);
        due("mark behind a fault", x.mark(2, true), true);
    }

    private static long traced(CopyArms x, int arm, int px, int py, int what) {
        try {
            return x.trace(arm, px, py, what);
        } catch (NoSuchElementException e) {
            return THROWN;
        }
    }

    private static long drawn(CopyArms x, int px, int py, int what) {
        try {
            return x.draw(px, py, what);
        } catch (NoSuchElementException e) {
            return THROWN;
        }
    }

    private static long bent(CopyArms x, int arm) {
        try {
            return x.crooked(arm);
        } catch (NoSuchElementException e) {
            return THROWN;
        }
    }

    private static void dueTraced(String what, CopyArms x, int arm, int px, int py, long[] want) {
        for (int i = 0; i < 4; i++) {
            due(what + " " + i, traced(x, arm, px, py, i), want[i]);
        }
    }

    private static void dueDrawn(String what, CopyArms x, int px, int py, long[] want) {
        for (int i = 0; i < 4; i++) {
            due(what + " " + i, drawn(x, px, py, i), want[i]);
        }
    }

    private static void newObject() {
        CopyArms x = new CopyArms();
        for (int what = 0; what <= 4; what++) {
            due("count of a new object", x.count(what), 0);
        }
        due("arm of a new object", x.arm(0, 0), -1);
        due("map of a new object", x.map(0, 0), -1);
        due("mark of a new object", x.mark(0, true), false);
        due("NONE", CopyArms.NONE, -1);
        CopyArms other = new CopyArms();
        feedText(other, ANN);
        due("objects have tapes of their own", x.count(4), 0);
    }

    private static void feed() {
        CopyArms x = new CopyArms();
        due("nothing fed", x.feed(0, 0, 0), 0);
        due("31, 127, 128 and more are left out", x.feed(0x1F7F80FF090B0D00L, -1, 0), 0);
        due("10, 32, 126 are taken", x.feed(0x0A207E0000000000L, 0x7E00000000000000L, 1 + 'a'), 5);
        CopyArms order = new CopyArms();
        feedText(order, "arm ann plain holes 2 1 tu");
        order.feed(0x72006e0020002000L, 0x3061742030203020L, 0x72656163682031L);
        feedText(order, " shake 0;");
        due("bytes come highest first, what is left out leaves no gap", order.office(), 0);
        due("the reach fed so", order.arm(0, 6), 1);
        CopyArms full = new CopyArms();
        for (int i = 0; i < 41; i++) {
            full.feed(0x2020202020202020L, 0x2020202020202020L, 0x2020202020202020L);
        }
        due("984 signs", full.count(4), 984);
        due("the last 16 find room", full.feed(0x2020202020202020L, 0x2020202020202020L, 0x2B2B2B2B2B2B2B2BL), 1000);
        due("no more than 1,000", full.feed(0x2B2B2B2B2B2B2B2BL, 0, 0), 1000);
        due("what is beyond is not read", full.office(), 0);
        due("what is read is taken", full.count(4), 0);
        due("fed anew", full.feed(0x2B00000000000000L, 0, 0), 1);
    }

    private static void office() {
        CopyArms x = made(OLD + ANN + NEW + BOB + CAT + DAN);
        due("arms", x.count(0), 4);
        due("maps", x.count(1), 2);
        x.set(1, 2, 0);
        x.turn(0, 3);
        x.chain(1);
        x.see(0, 1, 1);
        x.mark(1, false);
        due("told again", told(x, "\n" + BOB + "\n "), 0);
        due("only what is told now", x.count(0), 1);
        due("no map now", x.count(1), 0);
        due("set to the first hole", x.arm(0, 1), 1);
        due("and to the second", x.arm(0, 2), 2);
        due("turned as told", x.arm(0, 3), 1);
        due("no chain", x.count(2), 0);
        due("no corner", x.count(3), 0);
        due("no mark", x.mark(1, true), false);
        due("an empty tape", x.office(), 0);
        due("tells no arm", x.count(0), 0);
        CopyArms dense = made("arm a plain holes 1 2turn0at 1 2reach3shake4bend5;map b size1to 2slips3points4 5,6 7;");
        due("no blank where none is needed", dense.arm(0, 8), 5);
        due("a word right before a number", dense.map(0, 2), 3);
        CopyArms zeros = made("arm a plain holes 0001 09 turn 000 at 0099 1 reach 0200 shake 9;");
        due("zeros ahead of a number", zeros.arm(0, 6), 200);
        due("hole with zeros ahead", zeros.hole(0, 1), 9);
    }

    private static void faultsOfTokens() {
        dueFault("^rod", 1);
        dueFault("^7", 1);
        dueFault("^;", 1);
        dueFault("^Arm", 1);
        dueFault("  \n^+", 1);
        dueFault(ANN + "^;", 1);
        dueFault("arm ^abcdefghi plain", 1);
        dueFault("arm abcdefgh ^", 1);
        dueFault("arm abcdefgh   \n^", 1);
        dueFault("arm a plain holes ^12345", 1);
        dueFault("arm a plain holes ^9999", 4);
        dueFault("arm a plain holes 1 2 3 4 ^12345", 1);
        dueFault("arm a plain holes 1 2^.", 1);
        dueFault("^arms a", 1);
    }

    private static void faultsOfArms() {
        for (String word : "arm holes turn at reach shake bend map size to slips points plain mirror stiff loose".split(" ")) {
            dueFault("arm ^" + word + " plain", 1);
            dueFault("map ^" + word + " size", 1);
        }
        dueFault("arm ^3 plain", 1);
        dueFault("arm a ^bent", 1);
        dueFault("arm a ^holes", 1);
        dueFault("arm a plain ^1", 1);
        dueFault("arm a plain holes 1 ^turn", 1);
        dueFault("arm a plain holes 1 ^", 1);
        dueFault("arm a plain holes 1 ^1", 3);
        dueFault("arm a plain holes 1 2 ^01 turn", 3);
        dueFault("arm a plain holes ^0", 4);
        dueFault("arm a plain holes 1 ^10", 4);
        dueFault("arm a plain holes 1 2 ^,", 1);
        dueFault("arm a plain holes 1 2 ^reach", 1);
        dueFault("arm a plain holes 1 2 turn ^4", 4);
        dueFault("arm a plain holes 1 2 turn ^at", 1);
        dueFault("arm a plain holes 1 2 turn 3 at ^100", 4);
        dueFault("arm a plain holes 1 2 turn 3 at 99 ^100", 4);
        dueFault("arm a plain holes 1 2 turn 3 at 99 ^reach", 1);
        dueFault("arm a plain holes 1 2 turn 3 at 99 0 reach ^0", 4);
        dueFault("arm a plain holes 1 2 turn 3 at 99 0 reach ^201", 4);
        dueFault("arm a plain holes 1 2 turn 3 at 99 0 reach 200 shake ^10", 4);
        dueFault("arm a plain holes 1 2 turn 3 at 99 0 reach 200 shake 9 bend ^10", 4);
        dueFault("arm a plain holes 1 2 turn 3 at 99 0 reach 200 shake 9 bend ^;", 1);
        dueFault("arm a plain holes 1 2 turn 3 at 99 0 reach 200 shake 9 bend 9 ^bend 9", 1);
        dueFault("arm a plain holes 1 2 turn 3 at 99 0 reach 200 shake 9 ^arm", 1);
        dueFault(ANN + BOB + "arm ^bob", 3);
        dueFault(OLD + "arm ^old", 3);
    }

    private static void faultsOfMaps() {
        dueFault("map a ^1", 1);
        dueFault("map a size ^0 to 1", 4);
        dueFault("map a size ^10 to 1", 4);
        dueFault("map a size 9 ^9", 1);
        dueFault("map a size 9 to ^0", 4);
        dueFault("map a size 9 to ^10", 4);
        dueFault("map a size 9 to 9 slips ^256", 4);
        dueFault("map a size 9 to 9 slips 255 points ^;", 1);
        dueFault("map a size 9 to 9 slips 255 points 1 ^,", 1);
        dueFault("map a size 9 to 9 slips 255 points 1 ^;", 1);
        dueFault("map a size 9 to 9 slips 255 points ^100", 4);
        dueFault("map a size 9 to 9 slips 255 points 99 ^100", 4);
        dueFault("map a size 9 to 9 slips 255 points 99 99 ^1", 1);
        dueFault("map a size 9 to 9 slips 255 points 99 99, ^;", 1);
        dueFault("map a size 9 to 9 slips 255 points 99 99^", 1);
        dueFault("map a size 9 to 9 slips 255 points 99 99 ^map", 1);
        dueFault(OLD + "map ^old", 3);
        dueFault(ANN + "map ^ann", 3);
    }

    private static void faultsOfCounts() {
        dueFault("arm a plain holes 1 2 3 4 ^5", 5);
        dueFault("arm a plain holes 2 3 4 5 ^1 turn 0 at 0 0 reach 5 shake 1;", 5);
        dueFault("arm a plain holes 2 3 4 5 ^9 turn 0 at 0 0 reach 5 shake 1;", 5);
        dueFault("arm a plain holes 1 2 3 4 ^4", 3);
        dueFault("arm a plain holes 1 2 3 4 ^0", 4);
        dueFault("arm a plain holes 1 2 3 4 ^10", 4);
        dueFault("arm a plain holes 1 2 3 4 ^,", 1);
        dueFault("map a size 1 to 1 slips 1 points 1 1,1 1,1 1,1 1,1 1,1 1^,", 5);
        dueFault("map a size 1 to 1 slips 1 points 1 1,1 1,1 1,1 1,1 1,1 1^+", 1);
        StringBuilder arms = new StringBuilder();
        StringBuilder maps = new StringBuilder();
        for (char name = 'a'; name < 'g'; name++) {
            arms.append("arm ").append(name).append(" plain holes 1 2 turn 0 at 0 0 reach 5 shake 1;");
        }
        for (char name = 'm'; name < 't'; name++) {
            maps.append("map ").append(name).append(" size 1 to 1 slips 1 points 1 1;");
        }
        dueFault(arms + "^arm", 5);
        dueFault(maps + "^map", 5);
        dueFault(maps.toString() + arms + "^arm a", 5);
        dueFault(maps.toString() + arms + "^map a", 5);
        dueFault(maps.toString() + arms + "^rod", 1);
        CopyArms x = made(arms.toString() + maps);
        due("six arms", x.count(0), 6);
        due("seven maps", x.count(1), 7);
    }

    private static void arm() {
        CopyArms x = made(ANN + BOB + CAT + DAN);
        int[] cat = {3, 3, 2, 2, 5, 5, 40, 1, 5, 3};
        int[] dan = {2, 9, 8, 3, 50, 99, 200, 9, 0, 4};
        for (int what = 0; what < 10; what++) {
            due("cat " + what, x.arm(2, what), cat[what]);
            due("dan " + what, x.arm(3, what), dan[what]);
        }
        due("plain", x.arm(0, 0), 0);
        due("mirror", x.arm(1, 0), 1);
        due("no such arm", x.arm(4, 0), -1);
        due("below all arms", x.arm(-1, 0), -1);
        due("no such what", x.arm(0, 10), -1);
        due("what below 0", x.arm(0, -1), -1);
    }

    private static void hole() {
        CopyArms x = made(CAT + DAN);
        due("first hole", x.hole(0, 0), 3);
        due("second hole", x.hole(0, 1), 2);
        due("third hole", x.hole(0, 2), 4);
        due("no fourth hole", x.hole(0, 3), -1);
        due("a fourth hole", x.hole(1, 3), 6);
        due("no fifth hole", x.hole(1, 4), -1);
        due("hole below 0", x.hole(0, -1), -1);
        due("hole of no arm", x.hole(2, 0), -1);
        due("hole of an arm below 0", x.hole(-1, 0), -1);
        x.set(0, 2, 1);
        due("as told, not as set", x.hole(0, 0), 3);
    }

    private static void map() {
        CopyArms x = made(OLD + NEW);
        due("size above", x.map(0, 0), 3);
        due("size below", x.map(0, 1), 2);
        due("slips", x.map(0, 2), 5);
        due("points", x.map(0, 3), 3);
        due("nine to nine above", x.map(1, 0), 1);
        due("nine to nine below", x.map(1, 1), 1);
        due("all slips", x.map(1, 2), 255);
        due("one point", x.map(1, 3), 1);
        due("no such what", x.map(0, 4), -1);
        due("what below 0", x.map(0, -1), -1);
        due("no such map", x.map(2, 0), -1);
        due("map below 0", x.map(-1, 0), -1);
    }

    private static void point() {
        CopyArms x = made(OLD + NEW);
        due("x", x.point(0, 2, false), 99);
        due("y", x.point(0, 2, true), 98);
        due("x of another map", x.point(1, 0, false), 10);
        due("no such point", x.point(0, 3, false), -1);
        due("point below 0", x.point(0, -1, true), -1);
        due("no such map", x.point(2, 0, true), -1);
        due("map below 0", x.point(-1, 0, true), -1);
    }

    private static void set() {
        CopyArms x = made(CAT + DAN);
        due("set", x.set(0, 2, 1), true);
        due("p", x.arm(0, 1), 4);
        due("q", x.arm(0, 2), 2);
        due("set as it is", x.set(0, 2, 1), true);
        due("a stiff one, too", x.set(1, 3, 0), true);
        due("the same hole", x.set(0, 1, 1), false);
        due("no such first hole", x.set(0, 3, 1), false);
        due("no such second hole", x.set(0, 1, 3), false);
        due("first hole below 0", x.set(0, -1, 1), false);
        due("second hole below 0", x.set(0, 1, -1), false);
        due("no such arm", x.set(2, 0, 1), false);
        due("arm below 0", x.set(-1, 0, 1), false);
        due("p stays", x.arm(0, 1), 4);
        due("q stays", x.arm(0, 2), 2);
        due("size p / q", x.chain(0) == 1 && x.size(0) == 2 && x.size(1) == 1, true);
    }

    private static void turn() {
        CopyArms x = made(ANN + BOB + CAT + DAN);
        due("turned", x.turn(0, 3), true);
        due("to so many", x.arm(0, 3), 3);
        due("a mirror", x.turn(1, 0), true);
        due("a loose one", x.turn(2, 1), true);
        due("a stiff one", x.turn(3, 1), false);
        due("which stays", x.arm(3, 3), 3);
        due("four", x.turn(0, 4), false);
        due("below 0", x.turn(0, -1), false);
        due("no such arm", x.turn(4, 0), false);
        due("arm below 0", x.turn(-1, 0), false);
        due("it stays", x.arm(0, 3), 3);
    }

    private static void pin() {
        CopyArms x = made(ANN);
        due("put", x.pin(0, 99, 0), true);
        due("x", x.arm(0, 4), 99);
        due("y", x.arm(0, 5), 0);
        due("x 100", x.pin(0, 100, 5), false);
        due("y 100", x.pin(0, 5, 100), false);
        due("x below 0", x.pin(0, -1, 5), false);
        due("y below 0", x.pin(0, 5, -1), false);
        due("no such arm", x.pin(1, 5, 5), false);
        due("arm below 0", x.pin(-1, 5, 5), false);
        due("x stays", x.arm(0, 4), 99);
        due("y stays", x.arm(0, 5), 0);
        due("other way round", x.pin(0, 0, 99), true);
        due("y now", x.arm(0, 5), 99);
    }

    private static void bend() {
        CopyArms x = made(ANN + DAN);
        due("bent", x.bend(0, 9), true);
        due("so many", x.arm(0, 8), 9);
        due("a stiff one, too", x.bend(1, 1), true);
        due("10", x.bend(0, 10), false);
        due("below 0", x.bend(0, -1), false);
        due("no such arm", x.bend(2, 1), false);
        due("arm below 0", x.bend(-1, 1), false);
        due("it stays", x.arm(0, 8), 9);
        due("straight again", x.bend(0, 0), true);
        due("none", x.arm(0, 8), 0);
    }

    private static void trace() {
        CopyArms x = made(ANN + BOB + CAT);
        dueTraced("plain, twice the size", x, 0, 3, 4, new long[] {6, 1, 8, 1});
        // From (10, 0): 10, 3; mirrored -10, 3; turned -3, -10; half of it.
        dueTraced("mirror, then turn", x, 1, 20, 3, new long[] {17, 2, -5, 1});
        // From (5, 5): 1, 1; turned twice -1, -1; bent -3/2, -1; times 3/2.
        dueTraced("turn, then bend", x, 2, 6, 6, new long[] {11, 4, 7, 2});
        dueTraced("the pin itself", x, 2, 5, 5, new long[] {5, 1, 5, 1});
        dueTraced("nothing over nothing", x, 0, 0, 0, new long[] {0, 1, 0, 1});
        dueTraced("just in reach", x, 0, 20, -30, new long[] {40, 1, -60, 1});
        due("just out of reach", traced(x, 0, 21, -30, 0), THROWN);
        due("just out of reach, below", traced(x, 0, 21, -30, 1), THROWN);
        due("no such arm", traced(x, 3, 0, 0, 0), THROWN);
        due("arm below 0", traced(x, -1, 0, 0, 0), THROWN);
        due("what 4", traced(x, 0, 0, 0, 4), THROWN);
        due("what below 0", traced(x, 0, 0, 0, -1), THROWN);
        due("far", traced(x, 0, 9999, -9999, 0), THROWN);
        due("farthest of all", traced(x, 0, Integer.MIN_VALUE, Integer.MIN_VALUE, 0), THROWN);
        x.set(2, 0, 2);
        x.turn(2, 3);
        x.bend(2, 3);
        x.pin(2, 0, 0);
        // 2, 1; thrice turned 1, -2; bent 1 - 6/10 = 2/5, -2; times 3/4.
        dueTraced("as it is now", x, 2, 2, 1, new long[] {3, 10, -3, 2});
        x.chain(0);
        dueTraced("by an arm alone", x, 0, 3, 4, new long[] {6, 1, 8, 1});
    }

    private static void chain() {
        CopyArms x = made(ANN + BOB + CAT + DAN + "arm eve plain holes 1 2 turn 0 at 0 0 reach 1 shake 0;");
        due("first", x.chain(3), 1);
        due("no such arm", x.chain(5), -1);
        due("second", x.chain(1), 2);
        due("it is on it", x.chain(3), -1);
        due("third", x.chain(0), 3);
        due("fourth", x.chain(4), 4);
        due("four are on it", x.chain(2), -1);
        due("still four", x.count(2), 4);
        due("none any more", x.chain(-1), 0);
        due("none on it", x.count(2), 0);
        due("it may come again", x.chain(3), 1);
        due("far below 0", x.chain(Integer.MIN_VALUE), 0);
        due("far above", x.chain(Integer.MAX_VALUE), -1);
    }

    private static void size() {
        CopyArms x = made(ANN + BOB + CAT + DAN);
        due("above without arms", x.size(0), 1);
        due("below without arms", x.size(1), 1);
        due("turn without arms", x.size(2), 0);
        due("mirrored without arms", x.size(3), 0);
        x.chain(2);
        x.chain(3);
        due("3/2 times 9/8 above", x.size(0), 27);
        due("3/2 times 9/8 below", x.size(1), 16);
        due("2 and 3 turns", x.size(2), 1);
        due("not mirrored", x.size(3), 0);
        x.chain(1);
        due("in lowest terms above", x.size(0), 27);
        due("in lowest terms below", x.size(1), 32);
        due("mirrored", x.size(3), 1);
        x.chain(0);
        due("times two above", x.size(0), 27);
        due("times two below", x.size(1), 16);
        due("no such what", x.size(4), -1);
        due("what below 0", x.size(-1), -1);
        CopyArms two = made("arm a mirror holes 9 1 turn 2 at 0 0 reach 1 shake 0;arm b mirror holes 9 3 turn 2 at 0 0 reach 1 shake 0;");
        two.chain(0);
        two.chain(1);
        due("two mirrors", two.size(3), 0);
        due("four quarters", two.size(2), 0);
        due("81 / 3 above", two.size(0), 27);
        due("81 / 3 below", two.size(1), 1);
    }

    private static void draw() {
        CopyArms x = made(ANN + BOB + CAT);
        dueDrawn("without an arm", x, 9999, -9999, new long[] {9999, 1, -9999, 1});
        due("x beyond", drawn(x, 10000, 0, 0), THROWN);
        due("x beyond the other way", drawn(x, -10000, 0, 0), THROWN);
        due("y beyond", drawn(x, 0, 10000, 0), THROWN);
        due("y beyond the other way", drawn(x, 0, -10000, 0), THROWN);
        due("what 4", drawn(x, 0, 0, 4), THROWN);
        due("what below 0", drawn(x, 0, 0, -1), THROWN);
        x.chain(2);
        x.chain(1);
        // cat draws (6, 6) at (11/4, 7/2); from (10, 0): -29/4, 7/2; mirrored 29/4, 7/2; turned -7/2, 29/4; half.
        dueDrawn("cat, then bob", x, 6, 6, new long[] {33, 4, 29, 8});
        x.chain(-1);
        x.chain(0);
        x.chain(2);
        // ann draws (24, 8) at (48, 16), 54 away from (5, 5).
        due("out of the second", drawn(x, 24, 8, 0), THROWN);
        due("out of the first", drawn(x, 51, 0, 0), THROWN);
        CopyArms deep = made("arm a plain holes 1 9 turn 0 at 99 50 reach 200 shake 0 bend 9;"
            + "arm b plain holes 1 9 turn 0 at 0 99 reach 200 shake 0 bend 7;"
            + "arm c plain holes 1 7 turn 0 at 3 0 reach 200 shake 0 bend 9;"
            + "arm d plain holes 1 9 turn 1 at 0 1 reach 200 shake 0 bend 7;");
        for (int arm = 0; arm < 4; arm++) {
            deep.chain(arm);
        }
        dueDrawn("through four arms", deep, 1, 0, new long[] {-3659, 20412, 27481, 10206});
    }

    private static void outs() {
        CopyArms x = made(ANN + CAT + OLD + NEW);
        due("without arms", x.outs(0), 0);
        x.chain(0);
        due("the third", x.outs(0), 4);
        x.pin(0, 99, 99);
        due("the first two", x.outs(0), 3);
        x.pin(0, 0, 0);
        x.chain(1);
        // (30, 0) is drawn at (60, 0): 60 from (5, 5); (0, 0) stays: 10 from it.
        due("the second by the second arm", x.outs(0), 6);
        due("(20, 22) is 32 from (5, 5)", x.outs(1), 0);
        due("no such map", x.outs(2), -1);
        due("map below 0", x.outs(-1), -1);
    }

    private static void dueFitted(CopyArms x, int above, int below, int arms, int ways, int bits) {
        due("arms for " + above + " / " + below, x.fitted(above, below, 0), arms);
        due("ways for " + above + " / " + below, x.fitted(above, below, 1), ways);
        due("bits for " + above + " / " + below, x.fitted(above, below, 2), bits);
    }

    private static void fitted() {
        CopyArms x = made(ANN + BOB + CAT + "arm dan stiff holes 9 8 turn 3 at 50 50 reach 100 shake 9;");
        dueFitted(x, 999, 999, 0, 1, 0);
        dueFitted(x, 2, 1, 1, 3, 1);
        dueFitted(x, 9, 8, 1, 1, 8);
        dueFitted(x, 9, 4, 2, 5, 6);
        dueFitted(x, 18, 8, 2, 5, 6);
        dueFitted(x, 7, 1, -1, -1, -1);
        // ann 2, bob 3 and cat 2; nothing else makes 12.
        dueFitted(x, 12, 1, 3, 1, 7);
        dueFitted(x, 24, 1, -1, -1, -1);
        x.set(0, 1, 0);
        dueFitted(x, 2, 1, 1, 3, 1);
        due("above 0", x.fitted(0, 1, 0), -1);
        due("below 0", x.fitted(1, 0, 0), -1);
        due("above 1,000", x.fitted(1000, 1000, 0), -1);
        due("below 1,000", x.fitted(1, 1000, 0), -1);
        due("less than nothing", x.fitted(-2, -1, 0), -1);
        due("what 3", x.fitted(2, 1, 3), -1);
        due("what below 0", x.fitted(2, 1, -1), -1);
        due("a new office", told(x, "arm a plain holes 9 1 turn 0 at 0 0 reach 1 shake 0;arm b plain holes 1 9 turn 0 at 0 0 reach 1 shake 0;"
            + "arm c plain holes 3 9 turn 0 at 0 0 reach 1 shake 0;"), 0);
        dueFitted(x, 243, 1, 3, 1, 7);
        dueFitted(x, 27, 1, 2, 2, 5);
        dueFitted(x, 729, 1, -1, -1, -1);
    }

    private static void see() {
        CopyArms x = new CopyArms();
        due("seen", x.see(0, 999, -999), true);
        due("seen, too", x.see(3, -999, 999), true);
        due("two corners", x.count(3), 2);
        due("seen again", x.see(0, 1, 1), true);
        due("still two", x.count(3), 2);
        due("no such corner", x.see(4, 0, 0), false);
        due("corner below 0", x.see(-1, 0, 0), false);
        due("x beyond", x.see(1, 1000, 0), false);
        due("x beyond the other way", x.see(1, -1000, 0), false);
        due("y beyond", x.see(1, 0, 1000), false);
        due("y beyond the other way", x.see(1, 0, -1000), false);
        due("two as before", x.count(3), 2);
        CopyArms last = made(ANN);
        last.see(1, 7, 7);
        due("nobody", last.suspects(), 0);
        last.see(1, 20, 0);
        due("the last time counts", last.suspects(), 1);
    }

    private static void clear() {
        CopyArms x = made(ANN);
        due("nothing to clear", x.clear(), true);
        x.see(0, 0, 0);
        x.see(2, 0, 0);
        due("cleared", x.clear(), true);
        due("no corner", x.count(3), 0);
        due("no suspects", x.suspects(), -1);
        x.see(1, 20, 0);
        due("nothing of before", x.suspects(), 1);
    }

    private static void suspects() {
        CopyArms x = made(ANN + "arm far mirror holes 2 1 turn 2 at 0 0 reach 1 shake 0 bend 9;" + BOB);
        due("no corner is seen", x.suspects(), -1);
        x.see(0, 0, 0);
        // Both turn about (0, 0); bob has it at (10, 0).
        due("two", x.suspects(), 3);
        x.see(2, 20, 20);
        // far: 10, 10, mirrored -10, 10, turned 10, -10: drawn below.
        due("one", x.suspects(), 1);
        x.clear();
        x.see(2, 2, -20);
        // 10 - 10 * 9/10 = 1, twice; out of its reach.
        due("out of reach or not", x.suspects(), 2);
        x.clear();
        x.see(0, 10, 5);
        // bob: -10, 0; mirrored 10, 0; turned 0, 10; half of 0 + b, 10: (10 + b/2, 5).
        due("another one", x.suspects(), 4);
        x.turn(2, 0);
        due("as it is now", x.suspects(), 0);
    }

    private static void crooked() {
        CopyArms x = made(ANN + CAT);
        due("no corner is seen", bent(x, 0), THROWN);
        x.see(1, 20, 0);
        due("any bend does", bent(x, 0), -9);
        x.see(2, 38, 20);
        due("nine", bent(x, 0), 9);
        x.see(2, 40, 20);
        due("ten is too much", bent(x, 0), THROWN);
        x.see(2, 2, 20);
        due("nine the other way", bent(x, 0), -9);
        x.see(2, 26, 20);
        due("three", bent(x, 0), 3);
        x.see(3, 6, 20);
        due("three still", bent(x, 0), 3);
        x.see(3, 4, 20);
        due("not both", bent(x, 0), THROWN);
        due("none", x.suspects(), 0);
        due("no such arm", bent(x, 2), THROWN);
        due("arm below 0", bent(x, -1), THROWN);
        x.clear();
        x.see(0, 14, 14);
        // cat: -5, -5; turned 5, 5; 5 + b/2, 5; times 3/2: 12.5 + 3 b / 4, 12.5: no whole number.
        due("no whole number", bent(x, 1), THROWN);
        x.set(1, 2, 1);
        x.see(0, 14, 15);
        // Twice: 15 + b, 15.
        due("minus one", bent(x, 1), -1);
        due("its own bend stays", x.arm(1, 8), 5);
    }

    private static void shakes() {
        CopyArms x = made(ANN + BOB + CAT);
        due("above without arms", x.shakes(0), 0);
        due("below without arms", x.shakes(1), 1);
        x.chain(2);
        due("a loose one's twice: 2 times 3/2", x.shakes(0), 3);
        due("whole", x.shakes(1), 1);
        x.chain(1);
        // (3 + 2) / 2
        due("with bob above", x.shakes(0), 5);
        due("with bob below", x.shakes(1), 2);
        x.chain(0);
        // (5/2 + 3) * 2
        due("with ann above", x.shakes(0), 11);
        due("with ann below", x.shakes(1), 1);
        due("what 2", x.shakes(2), -1);
        due("what below 0", x.shakes(-1), -1);
    }

    private static void steadiest() {
        CopyArms x = made(ANN + BOB + CAT);
        due("above without arms", x.steadiest(0), 0);
        due("below without arms", x.steadiest(1), 1);
        due("no first arm", x.steadiest(2), -1);
        x.chain(2);
        x.chain(1);
        x.chain(0);
        // ann, cat, bob: 6, then 8 * 3/2 = 12, then 14 / 2 = 7; cat, ann, bob: 3, 12, 7 as well; bob last is best.
        due("above", x.steadiest(0), 7);
        due("below", x.steadiest(1), 1);
        due("first of equal ones", x.steadiest(2), 0);
        due("second", x.steadiest(3), 2);
        due("third", x.steadiest(4), 1);
        due("no fourth", x.steadiest(5), -1);
        due("what below 0", x.steadiest(-1), -1);
        due("the chain stays", x.shakes(0), 11);
        due("far above", x.steadiest(Integer.MAX_VALUE), -1);
        CopyArms even = made("arm a plain holes 3 2 turn 0 at 0 0 reach 1 shake 5;arm b plain holes 3 2 turn 0 at 0 0 reach 1 shake 5;");
        even.chain(1);
        even.chain(0);
        due("by number, not by place", even.steadiest(2), 0);
        due("then the other", even.steadiest(3), 1);
    }

    private static void sheets() {
        CopyArms x = made(OLD + NEW + "map sq size 1 to 1 slips 0 points 0 0, 1 0, 0 1, 1 1;"
            + "map two size 1 to 1 slips 0 points 7 7, 7 7, 8 8, 50 50, 8 8, 90 90;"
            + "map far size 1 to 1 slips 0 points 0 0, 99 99, 0 99, 99 0;");
        due("each its own", x.sheets(0, 0), 3);
        due("15 each way", x.sheets(0, 15), 2);
        due("14 is too little", x.sheets(0, 14), 3);
        due("all by one", x.sheets(0, 200), 1);
        due("one point", x.sheets(1, 0), 1);
        due("no whole middle of a square", x.sheets(2, 1), 2);
        due("two does", x.sheets(2, 2), 1);
        due("points alike", x.sheets(3, 0), 4);
        due("1 between two corners", x.sheets(3, 1), 3);
        due("98 is too little for any two", x.sheets(4, 49), 4);
        due("two sides by two", x.sheets(4, 50), 2);
        due("98 for three or four", x.sheets(4, 98), 2);
        due("no whole middle of all", x.sheets(4, 99), 2);
        due("100 for all", x.sheets(4, 100), 1);
        due("reach 201", x.sheets(0, 201), -1);
        due("reach below 0", x.sheets(0, -1), -1);
        due("no such map", x.sheets(5, 1), -1);
        due("map below 0", x.sheets(-1, 1), -1);
    }

    private static void dueDescent(String what, CopyArms x, int... row) {
        for (int i = 0; i < row.length; i++) {
            due(what + " " + i, x.descent(i), row[i]);
        }
        due(what + " beyond", x.descent(row.length), -1);
        due(what + " below 0", x.descent(-1), -1);
    }

    private static void descent() {
        due("no map", made(ANN).descent(0), -1);
        dueDescent("one map, no arm", made(OLD), 0, 0, 0);
        due("no arm for another", made(OLD + NEW).descent(0), -1);
        String two = "arm up plain holes 2 1 turn 0 at 0 0 reach 1 shake 0;arm dn plain holes 1 2 turn 0 at 0 0 reach 1 shake 0;";
        CopyArms x = made(two + "map a size 1 to 1 slips 0 points 0 0;map b size 4 to 2 slips 1 points 0 0;map c size 1 to 2 slips 3 points 0 0;");
        dueDescent("both from the first", x, 3, 0, 0, 0, 0);
        x.set(1, 1, 0);
        // Only doubling now: c, then a, then b.
        dueDescent("as they are set now", x, 3, 2, 2, 0, 2);
        x.set(0, 1, 0);
        dueDescent("only one of them halves", x, 3, 0, 0, 0, 0);
        x.set(1, 0, 1);
        dueDescent("only halving now", x, 3, 1, 1, 1, 0);
        CopyArms row = made(two + "map a size 2 to 1 slips 3 points 0 0;map b size 1 to 1 slips 1 points 0 0;map c size 2 to 1 slips 7 points 0 0;"
            + "map d size 1 to 1 slips 7 points 0 0;");
        // a-b 1, a-d 1, c-b 2, c-d 0: by halving and doubling any may be first; a tree costs 1 + 1 + 0.
        dueDescent("least row", row, 2, 0, 0, 0, 3, 0);
        CopyArms lone = made(two + "map a size 2 to 1 slips 3 points 0 0;map b size 7 to 1 slips 1 points 0 0;");
        due("none can be", lone.descent(0), -1);
        due("none can be first", lone.descent(1), -1);
    }

    private static void mark() {
        CopyArms x = made(ANN + BOB);
        due("nothing is on it", x.mark(3, true), false);
        x.set(0, 1, 0);
        x.turn(0, 2);
        x.pin(0, 3, 4);
        x.bend(0, 5);
        x.chain(1);
        x.see(2, 8, 9);
        due("laid", x.mark(3, false), true);
        x.set(0, 0, 1);
        x.turn(0, 1);
        x.pin(0, 5, 6);
        x.bend(0, 7);
        x.chain(-1);
        x.chain(0);
        x.chain(1);
        x.see(0, 1, 1);
        due("another laid", x.mark(0, false), true);
        int[] first = {0, 1, 2, 2, 3, 4, 50, 3, 5, 2};
        int[] second = {0, 2, 1, 1, 5, 6, 50, 3, 7, 2};
        due("gone back to", x.mark(3, true), true);
        for (int what = 0; what < 10; what++) {
            due("back " + what, x.arm(0, what), first[what]);
        }
        due("chain", x.count(2), 1);
        due("its arm", x.steadiest(2), 1);
        due("seen", x.count(3), 1);
        x.bend(0, 0);
        due("a mark stays", x.mark(3, true), true);
        due("as it was laid", x.arm(0, 8), 5);
        due("the other one", x.mark(0, true), true);
        for (int what = 0; what < 10; what++) {
            due("other " + what, x.arm(0, what), second[what]);
        }
        due("its chain", x.count(2), 2);
        due("its corners", x.count(3), 2);
        due("laid over", x.mark(3, false), true);
        due("and back", x.mark(3, true), true);
        due("is the new one", x.arm(0, 8), 7);
        due("no such mark", x.mark(4, false), false);
        due("no such mark to go back to", x.mark(4, true), false);
        due("mark below 0", x.mark(-1, false), false);
        due("nothing on 1", x.mark(1, true), false);
        feedText(x, "a b c");
        due("with a tape", x.mark(3, true), true);
        due("the tape is not on it", x.count(4), 5);
        due("a fault leaves marks", x.office() != 0 && x.mark(0, true), true);
        due("an office does not", told(x, ANN) == 0 && !x.mark(0, true), true);
    }

    private static void count() {
        CopyArms x = made(ANN + BOB + OLD);
        x.chain(1);
        x.see(1, 0, 0);
        x.see(2, 0, 0);
        x.see(3, 0, 0);
        feedText(x, "1 2 3");
        due("arms", x.count(0), 2);
        due("maps", x.count(1), 1);
        due("chain", x.count(2), 1);
        due("seen", x.count(3), 3);
        due("tape", x.count(4), 5);
        due("what 5", x.count(5), -1);
        due("what below 0", x.count(-1), -1);
    }
}
