/** The edges of promises 4 to 16, 26 and 27: what is asked of arms and maps, hands, tracing, chains, marks, counts. */
public final class CopyArmsHandEdgesTest {
    private static final String LEAST = "arm lo plain holes 1 2 turn 0 at 0 0 reach 1 shake 0;";
    private static final String MOST = "arm hi loose holes 9 8 7 6 turn 3 at 99 99 reach 200 shake 9 bend 9;";
    private static final String STIFF = "arm st stiff holes 3 2 4 turn 1 at 5 6 reach 20 shake 2;";
    private static final String MIRROR = "arm mi mirror holes 2 1 turn 0 at 10 0 reach 50 shake 3;";
    private static final String ALL = LEAST + MOST + STIFF + MIRROR;
    private static final String ONE_POINT = "map one size 9 to 9 slips 0 points 0 99;";
    private static final String SIX_POINTS = "map six size 6 to 4 slips 255 points 1 2,3 4,5 6,7 8,9 10,99 0;";

    public static void main(String[] args) {
        Bench.runAll(CopyArmsHandEdgesTest.class);
    }

    private static String sixArms() {
        StringBuilder all = new StringBuilder();
        for (char name = 'a'; name <= 'f'; name++) {
            all.append(Bench.plain("" + name, "2 1"));
        }
        return all.toString();
    }

    /** An office in which hands have been at work everywhere, to see that what is refused leaves it alone. */
    private static CopyArms atWork() {
        CopyArms x = Bench.made(ALL + ONE_POINT + SIX_POINTS);
        x.set(1, 2, 3);
        x.turn(0, 2);
        x.pin(3, 4, 5);
        x.bend(2, 6);
        x.chain(3);
        x.chain(1);
        x.see(0, 7, 8);
        x.see(2, -9, 9);
        return x;
    }

    // ---- Promise 4

    @Bench.Says(promise = 4, value = "what 0: its KIND (0 plain, 1 mirror, 2 stiff, 3 loose)")
    private static void armKinds() {
        CopyArms x = Bench.made(ALL);
        Bench.due("plain", x.arm(0, 0), 0);
        Bench.due("loose", x.arm(1, 0), 3);
        Bench.due("stiff", x.arm(2, 0), 2);
        Bench.due("mirror", x.arm(3, 0), 1);
    }

    @Bench.Says(promise = 4, value = "1, 2: the holes p, q to which it is SET")
    private static void armHolesAsSetNow() {
        CopyArms x = Bench.made(MOST);
        Bench.due("p as told", x.arm(0, 1), 9);
        Bench.due("q as told", x.arm(0, 2), 8);
        x.set(0, 3, 0);
        Bench.due("p now", x.arm(0, 1), 6);
        Bench.due("q now", x.arm(0, 2), 9);
    }

    @Bench.Says(promise = 4, value = "3: turn, 4, 5: PIN, 6: reach, 7: shake, 8: bend, 9: how many holes")
    private static void armLeastAndMost() {
        CopyArms x = Bench.made(LEAST + MOST);
        int[] least = {0, 1, 2, 0, 0, 0, 1, 0, 0, 2};
        int[] most = {3, 9, 8, 3, 99, 99, 200, 9, 9, 4};
        for (int what = 0; what <= 9; what++) {
            Bench.due("least " + what, x.arm(0, what), least[what]);
            Bench.due("most " + what, x.arm(1, what), most[what]);
        }
    }

    @Bench.Says(promise = 4, value = "NONE: others")
    private static void armOthers() {
        CopyArms x = Bench.made(sixArms());
        for (int what = 0; what <= 9; what++) {
            Bench.due("the sixth has a " + what, x.arm(5, what) != CopyArms.NONE, true);
            Bench.due("no seventh", x.arm(6, what), CopyArms.NONE);
        }
        Bench.due("what 10", x.arm(0, 10), CopyArms.NONE);
        for (int other : Bench.NOWHERE) {
            Bench.due("arm " + other, x.arm(other, 0), CopyArms.NONE);
            Bench.due("what " + other, x.arm(0, other), CopyArms.NONE);
            Bench.due("both " + other, x.arm(other, other), CopyArms.NONE);
        }
    }

    // ---- Promise 5

    @Bench.Says(promise = 5, value = "The i-th hole of an arm, as it was told")
    private static void holesAsTold() {
        CopyArms x = Bench.made(MOST);
        x.set(0, 3, 1);
        for (int i = 0; i < 4; i++) {
            Bench.due("hole " + i, x.hole(0, i), 9 - i);
        }
    }

    @Bench.Says(promise = 5, value = "NONE: others")
    private static void holeOthers() {
        CopyArms x = Bench.made(LEAST + MOST);
        Bench.due("no third of two", x.hole(0, 2), CopyArms.NONE);
        Bench.due("no fourth of two", x.hole(0, 3), CopyArms.NONE);
        Bench.due("no fifth of four", x.hole(1, 4), CopyArms.NONE);
        Bench.due("no third arm", x.hole(2, 0), CopyArms.NONE);
        for (int other : Bench.NOWHERE) {
            Bench.due("hole " + other, x.hole(1, other), CopyArms.NONE);
            Bench.due("arm " + other, x.hole(other, 0), CopyArms.NONE);
        }
    }

    // ---- Promise 6

    @Bench.Says(promise = 6, value = "what 0, 1: size, above and below in lowest terms")
    private static void mapSizesInLowestTerms() {
        int[][] sizes = {{9, 9, 1, 1}, {6, 4, 3, 2}, {2, 4, 1, 2}, {9, 1, 9, 1}, {1, 9, 1, 9}, {8, 9, 8, 9}, {6, 9, 2, 3}, {8, 2, 4, 1}, {1, 1, 1, 1}};
        for (int[] size : sizes) {
            CopyArms x = Bench.made(Bench.map("m", size[0] + " to " + size[1], 0, "0 0"));
            Bench.due("above of " + size[0] + " to " + size[1], x.map(0, 0), size[2]);
            Bench.due("below of " + size[0] + " to " + size[1], x.map(0, 1), size[3]);
        }
    }

    @Bench.Says(promise = 6, value = "2: slips, 3: how many points")
    private static void mapLeastAndMost() {
        CopyArms x = Bench.made(ONE_POINT + SIX_POINTS);
        Bench.due("no slips", x.map(0, 2), 0);
        Bench.due("all slips", x.map(1, 2), 255);
        Bench.due("one point", x.map(0, 3), 1);
        Bench.due("six points", x.map(1, 3), 6);
    }

    @Bench.Says(promise = 6, value = "NONE: others")
    private static void mapOthers() {
        CopyArms x = Bench.made(ONE_POINT + SIX_POINTS);
        for (int what = 0; what <= 3; what++) {
            Bench.due("no third map", x.map(2, what), CopyArms.NONE);
        }
        Bench.due("what 4", x.map(0, 4), CopyArms.NONE);
        for (int other : Bench.NOWHERE) {
            Bench.due("map " + other, x.map(other, 0), CopyArms.NONE);
            Bench.due("what " + other, x.map(0, other), CopyArms.NONE);
        }
    }

    // ---- Promise 7

    @Bench.Says(promise = 7, value = "Of the i-th point of a map, x (y: y)")
    private static void firstAndLastPoint() {
        CopyArms x = Bench.made(ONE_POINT + SIX_POINTS);
        Bench.due("x 0", x.point(0, 0, false), 0);
        Bench.due("y 99", x.point(0, 0, true), 99);
        Bench.due("x of the first", x.point(1, 0, false), 1);
        Bench.due("y of the first", x.point(1, 0, true), 2);
        Bench.due("x of the last", x.point(1, 5, false), 99);
        Bench.due("y of the last", x.point(1, 5, true), 0);
    }

    @Bench.Says(promise = 7, value = "NONE: others")
    private static void pointOthers() {
        CopyArms x = Bench.made(ONE_POINT + SIX_POINTS);
        for (boolean y : new boolean[] {false, true}) {
            Bench.due("no second of one", x.point(0, 1, y), CopyArms.NONE);
            Bench.due("no seventh of six", x.point(1, 6, y), CopyArms.NONE);
            Bench.due("no third map", x.point(2, 0, y), CopyArms.NONE);
            for (int other : Bench.NOWHERE) {
                Bench.due("point " + other, x.point(1, other, y), CopyArms.NONE);
                Bench.due("map " + other, x.point(other, 0, y), CopyArms.NONE);
            }
        }
    }

    // ---- Promise 8

    @Bench.Says(promise = 8, value = "SET to the i-th and the j-th hole: true")
    private static void setToEachPairOfHoles() {
        CopyArms x = Bench.made(MOST);
        for (int i = 0; i < 4; i++) {
            for (int j = 0; j < 4; j++) {
                if (i != j) {
                    Bench.due("set", x.set(0, i, j), true);
                    Bench.due("p", x.arm(0, 1), 9 - i);
                    Bench.due("q", x.arm(0, 2), 9 - j);
                    Bench.due("set as it is", x.set(0, i, j), true);
                }
            }
        }
    }

    @Bench.Says(promise = 8, value = "false: .. the same")
    private static void setToTheSameHole() {
        CopyArms x = atWork();
        String before = Bench.state(x);
        for (int i = 0; i < 4; i++) {
            Bench.due("the same " + i, x.set(1, i, i), false);
        }
        Bench.due("all stays", Bench.state(x), before);
    }

    @Bench.Says(promise = 8, value = "false: others")
    private static void setOthers() {
        CopyArms x = atWork();
        String before = Bench.state(x);
        Bench.due("no third of two", x.set(0, 2, 0), false);
        Bench.due("no third of two, as q", x.set(0, 0, 2), false);
        Bench.due("no fifth of four", x.set(1, 4, 0), false);
        Bench.due("no fifth of four, as q", x.set(1, 0, 4), false);
        Bench.due("no fifth arm", x.set(4, 0, 1), false);
        for (int other : Bench.NOWHERE) {
            Bench.due("p " + other, x.set(1, other, 0), false);
            Bench.due("q " + other, x.set(1, 0, other), false);
            Bench.due("both " + other, x.set(1, other, other), false);
            Bench.due("arm " + other, x.set(other, 0, 1), false);
        }
        Bench.due("all stays", Bench.state(x), before);
    }

    // ---- Promise 9

    @Bench.Says(promise = 9, value = "Turned to so many quarters (0 to 3): true")
    private static void turnFromZeroToThree() {
        CopyArms x = Bench.made(ALL);
        for (int arm : new int[] {0, 1, 3}) {
            for (int quarters = 0; quarters <= 3; quarters++) {
                Bench.due("turned", x.turn(arm, quarters), true);
                Bench.due("to so many, not by so many", x.arm(arm, 3), quarters);
            }
        }
    }

    @Bench.Says(promise = 9, value = "false: others")
    private static void turnOthers() {
        CopyArms x = atWork();
        String before = Bench.state(x);
        Bench.due("four", x.turn(0, 4), false);
        Bench.due("no fifth arm", x.turn(4, 0), false);
        for (int other : Bench.NOWHERE) {
            Bench.due("quarters " + other, x.turn(0, other), false);
            Bench.due("arm " + other, x.turn(other, 0), false);
        }
        Bench.due("all stays", Bench.state(x), before);
    }

    @Bench.Says(promise = 9, value = "false: .. a stiff one")
    private static void turnAStiffOne() {
        CopyArms x = atWork();
        String before = Bench.state(x);
        for (int quarters = 0; quarters <= 3; quarters++) {
            Bench.due("a stiff one", x.turn(2, quarters), false);
        }
        Bench.due("all stays", Bench.state(x), before);
    }

    @Bench.Says(promise = 9, value = "By hand an arm is SET, turned (a stiff one not), put to another PIN, bent.")
    private static void handsOnAStiffOne() {
        CopyArms x = Bench.made(STIFF);
        Bench.due("set", x.set(0, 2, 1), true);
        Bench.due("put", x.pin(0, 99, 0), true);
        Bench.due("bent", x.bend(0, 9), true);
        int[] now = {2, 4, 2, 1, 99, 0, 20, 2, 9, 3};
        for (int what = 0; what <= 9; what++) {
            Bench.due("now " + what, x.arm(0, what), now[what]);
        }
    }

    // ---- Promise 10

    @Bench.Says(promise = 10, value = "Put to another PIN (0 to 99 each): true")
    private static void pinAtTheEdges() {
        CopyArms x = Bench.made(STIFF);
        int[][] pins = {{0, 0}, {99, 0}, {0, 99}, {99, 99}, {1, 98}};
        for (int[] pin : pins) {
            Bench.due("put", x.pin(0, pin[0], pin[1]), true);
            Bench.due("x", x.arm(0, 4), pin[0]);
            Bench.due("y", x.arm(0, 5), pin[1]);
        }
    }

    @Bench.Says(promise = 10, value = "false: others")
    private static void pinOthers() {
        CopyArms x = atWork();
        String before = Bench.state(x);
        Bench.due("x 100", x.pin(0, 100, 1), false);
        Bench.due("y 100", x.pin(0, 1, 100), false);
        Bench.due("no fifth arm", x.pin(4, 1, 1), false);
        for (int other : Bench.NOWHERE) {
            Bench.due("x " + other, x.pin(0, other, 1), false);
            Bench.due("y " + other, x.pin(0, 1, other), false);
            Bench.due("arm " + other, x.pin(other, 1, 1), false);
        }
        Bench.due("all stays", Bench.state(x), before);
    }

    // ---- Promise 11

    @Bench.Says(promise = 11, value = "Bent (0 to 9): true")
    private static void bendFromZeroToNine() {
        CopyArms x = Bench.made(ALL);
        for (int arm = 0; arm < 4; arm++) {
            for (int tenths = 9; tenths >= 0; tenths--) {
                Bench.due("bent", x.bend(arm, tenths), true);
                Bench.due("so far", x.arm(arm, 8), tenths);
            }
        }
    }

    @Bench.Says(promise = 11, value = "false: others")
    private static void bendOthers() {
        CopyArms x = atWork();
        String before = Bench.state(x);
        Bench.due("10", x.bend(0, 10), false);
        Bench.due("-9, though a suspect may be bent so", x.bend(0, -9), false);
        Bench.due("no fifth arm", x.bend(4, 0), false);
        for (int other : Bench.NOWHERE) {
            Bench.due("tenths " + other, x.bend(0, other), false);
            Bench.due("arm " + other, x.bend(other, 0), false);
        }
        Bench.due("all stays", Bench.state(x), before);
    }

    // ---- Promise 12

    @Bench.Says(promise = 12, value = "It is OUT of reach if |dx| + |dy| is more than reach.")
    private static void justWithinTheLeastReach() {
        CopyArms x = Bench.made(Bench.arm("a", "plain", "2 1", 0, 50, 50, 1));
        Bench.due("the pin", Bench.copy(x, 0, 50, 50), "50/1 50/1");
        Bench.due("right", Bench.copy(x, 0, 51, 50), "52/1 50/1");
        Bench.due("left", Bench.copy(x, 0, 49, 50), "48/1 50/1");
        Bench.due("up", Bench.copy(x, 0, 50, 51), "50/1 52/1");
        Bench.due("down", Bench.copy(x, 0, 50, 49), "50/1 48/1");
        int[][] out = {{52, 50}, {48, 50}, {50, 52}, {50, 48}, {51, 51}, {49, 49}, {51, 49}, {49, 51}};
        for (int[] point : out) {
            Bench.due("out " + point[0] + " " + point[1], Bench.copy(x, 0, point[0], point[1]), "OUT");
        }
    }

    @Bench.Says(promise = 12, value = "It is OUT of reach if |dx| + |dy| is more than reach.")
    private static void justWithinTheLongestReach() {
        CopyArms x = Bench.made(Bench.arm("a", "plain", "2 1", 0, 99, 99, 200));
        Bench.due("right", Bench.copy(x, 0, 299, 99), "499/1 99/1");
        Bench.due("farther", Bench.copy(x, 0, 300, 99), "OUT");
        Bench.due("left", Bench.copy(x, 0, -101, 99), "-301/1 99/1");
        Bench.due("farther left", Bench.copy(x, 0, -102, 99), "OUT");
        Bench.due("down", Bench.copy(x, 0, 99, -101), "99/1 -301/1");
        Bench.due("farther down", Bench.copy(x, 0, 99, -102), "OUT");
        Bench.due("both ways", Bench.copy(x, 0, 199, 199), "299/1 299/1");
        Bench.due("farther both ways", Bench.copy(x, 0, 199, 200), "OUT");
    }

    @Bench.Says(promise = 12, value = "mirror: dx turns its sign")
    private static void mirrorTurnsTheSign() {
        CopyArms x = Bench.made(MIRROR);
        Bench.due("right of the pin", Bench.copy(x, 0, 13, 4), "4/1 8/1");
        Bench.due("left of it", Bench.copy(x, 0, 7, -4), "16/1 -8/1");
        Bench.due("above it", Bench.copy(x, 0, 10, 4), "10/1 8/1");
    }

    @Bench.Says(promise = 12, value = "turn quarters: once dx, dy become -dy, dx")
    private static void eachTurn() {
        String[] turned = {"6/1 2/1", "-2/1 6/1", "-6/1 -2/1", "2/1 -6/1"};
        for (int turn = 0; turn <= 3; turn++) {
            CopyArms x = Bench.made(Bench.arm("a", "plain", "2 1", turn, 0, 0, 200));
            Bench.due("turned " + turn, Bench.copy(x, 0, 3, 1), turned[turn]);
        }
    }

    @Bench.Says(promise = 12, value = "Else, one behind the other: mirror .. turn .. bend")
    private static void mirrorThenTurnThenBend() {
        CopyArms x = Bench.made(Bench.arm("a", "mirror", "2 1", 1, 0, 0, 200) + Bench.arm("b", "plain", "2 1", 1, 0, 0, 200));
        // 3, 1; mirrored -3, 1; turned -1, -3; twice.
        Bench.due("mirror, then turn", Bench.copy(x, 0, 3, 1), "-2/1 -6/1");
        x.bend(1, 5);
        // 3, 1; turned -1, 3; bent -1 + 3/2, 3; twice.
        Bench.due("turn, then bend", Bench.copy(x, 1, 3, 1), "1/1 6/1");
        x.bend(0, 5);
        // -1, -3 bent is -5/2, -3; twice.
        Bench.due("all three", Bench.copy(x, 0, 3, 1), "-5/1 -6/1");
    }

    @Bench.Says(promise = 12, value = "bend: dx becomes dx + dy * bend / 10")
    private static void leastAndMostBend() {
        CopyArms x = Bench.made(Bench.plain("a", "2 1"));
        Bench.due("straight", Bench.copy(x, 0, 0, 10), "0/1 20/1");
        x.bend(0, 9);
        Bench.due("nine up", Bench.copy(x, 0, 0, 10), "18/1 20/1");
        Bench.due("nine down", Bench.copy(x, 0, 0, -10), "-18/1 -20/1");
        Bench.due("not with dy 0", Bench.copy(x, 0, 10, 0), "20/1 0/1");
        x.bend(0, 1);
        Bench.due("a tenth of one", Bench.copy(x, 0, 0, 1), "1/5 2/1");
    }

    @Bench.Says(promise = 12, value = "All exactly, as fractions in lowest terms (below above 0).")
    private static void lowestTerms() {
        CopyArms x = Bench.made(Bench.plain("a", "2 4") + Bench.plain("b", "1 9"));
        Bench.due("below 0", Bench.copy(x, 0, -3, -2), "-3/2 -1/1");
        Bench.due("nothing is 0 / 1", Bench.copy(x, 1, 0, 0), "0/1 0/1");
        Bench.due("nothing beside something", Bench.copy(x, 1, 0, 3), "0/1 1/3");
        x.bend(0, 5);
        Bench.due("bent", Bench.copy(x, 0, 1, 1), "3/4 1/2");
        x.bend(1, 7);
        // (-1 - 7/10) / 9
        Bench.due("seventeen ninetieths", Bench.copy(x, 1, -1, -1), "-17/90 -1/9");
    }

    @Bench.Says(promise = 12, value = "TRACED by an arm alone")
    private static void theChainDoesNotMatter() {
        CopyArms x = Bench.made(Bench.plain("a", "2 1") + Bench.arm("b", "plain", "3 1", 0, 9, 9, 1));
        x.chain(1);
        x.chain(0);
        Bench.due("by the first alone", Bench.copy(x, 0, 3, 4), "6/1 8/1");
        Bench.due("out of the second alone", Bench.copy(x, 1, 3, 4), "OUT");
    }

    @Bench.Says(promise = 12, value = "NoSuchElementException: others (x, y -9999 to 9999)")
    private static void traceOthers() {
        CopyArms x = atWork();
        String before = Bench.state(x);
        Bench.due("what 3 is one", Bench.traced(x, 0, 0, 0, 3), 1);
        Bench.due("what 4", Bench.traced(x, 0, 0, 0, 4), Bench.THROWN);
        Bench.due("no fifth arm", Bench.traced(x, 4, 0, 0, 0), Bench.THROWN);
        for (int far : new int[] {9999, -9999, 10000, -10000}) {
            Bench.due("x " + far, Bench.traced(x, 0, far, 0, 0), Bench.THROWN);
            Bench.due("y " + far, Bench.traced(x, 0, 0, far, 0), Bench.THROWN);
        }
        for (int other : Bench.NOWHERE) {
            Bench.due("what " + other, Bench.traced(x, 0, 0, 0, other), Bench.THROWN);
            Bench.due("arm " + other, Bench.traced(x, other, 0, 0, 0), Bench.THROWN);
            if (other != -1) {
                Bench.due("x " + other, Bench.traced(x, 0, other, 0, 0), Bench.THROWN);
                Bench.due("y " + other, Bench.traced(x, 0, 0, other, 0), Bench.THROWN);
                Bench.due("both " + other, Bench.traced(x, 0, other, other, 0), Bench.THROWN);
            }
        }
        Bench.due("all stays", Bench.state(x), before);
    }

    // ---- Promise 13

    @Bench.Says(promise = 13, value = "An arm comes behind the CHAIN: how many it has")
    private static void chainOfFour() {
        CopyArms x = Bench.made(sixArms());
        int[] arms = {5, 0, 3, 1};
        for (int i = 0; i < 4; i++) {
            Bench.due("how many", x.chain(arms[i]), i + 1);
            Bench.due("count", x.count(2), i + 1);
        }
    }

    @Bench.Says(promise = 13, value = "An arm comes behind the CHAIN")
    private static void behindNotAhead() {
        CopyArms x = Bench.made(Bench.plain("a", "2 1") + Bench.arm("b", "plain", "2 1", 1, 10, 0, 200));
        x.chain(0);
        x.chain(1);
        // a: 6, 0; b: -4, 0 from its pin, turned 0, -4, twice.
        Bench.due("a, then b", Bench.copyOfChain(x, 3, 0), "10/1 -8/1");
        x.chain(-1);
        x.chain(1);
        x.chain(0);
        // b: -7, 0, turned 0, -7, twice: 10, -14; a: twice.
        Bench.due("b, then a", Bench.copyOfChain(x, 3, 0), "20/1 -28/1");
    }

    @Bench.Says(promise = 13, value = "NONE: .. it is on it")
    private static void eachOnce() {
        CopyArms x = Bench.made(sixArms());
        x.chain(4);
        x.chain(2);
        x.chain(0);
        String before = Bench.state(x);
        Bench.due("the first is on it", x.chain(4), CopyArms.NONE);
        Bench.due("the second is on it", x.chain(2), CopyArms.NONE);
        Bench.due("the last is on it", x.chain(0), CopyArms.NONE);
        Bench.due("all stays", Bench.state(x), before);
    }

    @Bench.Says(promise = 13, value = "NONE: .. 4 are on it")
    private static void aFullChain() {
        CopyArms x = Bench.made(sixArms());
        for (int arm = 0; arm < 4; arm++) {
            x.chain(arm);
        }
        String before = Bench.state(x);
        Bench.due("a fifth", x.chain(4), CopyArms.NONE);
        Bench.due("another fifth", x.chain(5), CopyArms.NONE);
        Bench.due("one that is on it", x.chain(0), CopyArms.NONE);
        Bench.due("all stays", Bench.state(x), before);
    }

    @Bench.Says(promise = 13, value = "NONE: others")
    private static void chainOthers() {
        CopyArms x = atWork();
        String before = Bench.state(x);
        Bench.due("no fifth arm", x.chain(4), CopyArms.NONE);
        for (int other : Bench.NOWHERE) {
            if (other >= 0) {
                Bench.due("arm " + other, x.chain(other), CopyArms.NONE);
            }
        }
        Bench.due("all stays", Bench.state(x), before);
    }

    @Bench.Says(promise = 13, value = "Below 0: none any more (0).")
    private static void noneAnyMore() {
        CopyArms x = Bench.made(sixArms());
        Bench.due("of none", x.chain(-1), 0);
        for (int other : Bench.NOWHERE) {
            if (other < 0) {
                for (int arm = 0; arm < 4; arm++) {
                    Bench.due("may come again", x.chain(arm), arm + 1);
                }
                Bench.due("none any more", x.chain(other), 0);
                Bench.due("count", x.count(2), 0);
            }
        }
        Bench.due("without an arm", x.size(0), 1);
    }

    // ---- Promise 14

    @Bench.Says(promise = 14, value = "Its SIZE: of all, multiplied")
    private static void sizesOfChains() {
        CopyArms x = Bench.made(Bench.plain("a", "9 1") + Bench.plain("b", "9 1") + Bench.plain("c", "9 1") + Bench.plain("d", "9 1"));
        Bench.due("above without arms", x.size(0), 1);
        Bench.due("below without arms", x.size(1), 1);
        int[] powers = {9, 81, 729, 6561};
        for (int arm = 0; arm < 4; arm++) {
            x.chain(arm);
            Bench.due("above", x.size(0), powers[arm]);
            Bench.due("below", x.size(1), 1);
        }
        x.set(0, 1, 0);
        Bench.due("81 again: as it is SET now", x.size(0), 81);
        x.set(1, 1, 0);
        Bench.due("1 above", x.size(0), 1);
        Bench.due("1 below", x.size(1), 1);
        x.set(2, 1, 0);
        x.set(3, 1, 0);
        Bench.due("least above", x.size(0), 1);
        Bench.due("least below", x.size(1), 6561);
    }

    @Bench.Says(promise = 14, value = "its TURN: of all, modulo 4")
    private static void turnsWrapAround() {
        CopyArms x = Bench.made(sixArms());
        Bench.due("without arms", x.size(2), 0);
        int[] sums = {3, 2, 1, 0};
        for (int arm = 0; arm < 4; arm++) {
            x.turn(arm, 3);
            x.chain(arm);
            Bench.due("three more", x.size(2), sums[arm]);
        }
        x.turn(3, 1);
        Bench.due("10 quarters", x.size(2), 2);
        x.turn(4, 1);
        Bench.due("one that is not on it", x.size(2), 2);
    }

    @Bench.Says(promise = 14, value = "MIRRORED: by an odd number of mirrors")
    private static void oddNumbersOfMirrors() {
        StringBuilder mirrors = new StringBuilder();
        for (char name = 'a'; name <= 'd'; name++) {
            mirrors.append(Bench.arm("" + name, "mirror", "2 1", 0, 0, 0, 9));
        }
        CopyArms x = Bench.made(mirrors + Bench.plain("e", "2 1") + Bench.arm("f", "stiff", "2 1", 0, 0, 0, 9));
        x.chain(4);
        x.chain(5);
        Bench.due("none", x.size(3), 0);
        x.chain(-1);
        Bench.due("without arms", x.size(3), 0);
        for (int arm = 0; arm < 4; arm++) {
            x.chain(arm);
            Bench.due("mirrors: " + (arm + 1), x.size(3), (arm + 1) % 2);
        }
    }

    @Bench.Says(promise = 14, value = "NONE: another what")
    private static void sizeOthers() {
        CopyArms x = atWork();
        Bench.due("what 4", x.size(4), CopyArms.NONE);
        for (int other : Bench.NOWHERE) {
            Bench.due("what " + other, x.size(other), CopyArms.NONE);
        }
    }

    // ---- Promise 15

    @Bench.Says(promise = 15, value = "Without an arm what is traced is drawn.")
    private static void drawnWithoutAnArm() {
        CopyArms x = Bench.made(sixArms());
        Bench.due("the middle", Bench.copyOfChain(x, 0, 0), "0/1 0/1");
        Bench.due("farther than any arm reaches", Bench.copyOfChain(x, 9999, -9999), "9999/1 -9999/1");
        x.chain(0);
        x.chain(-1);
        Bench.due("none any more", Bench.copyOfChain(x, -9999, 9999), "-9999/1 9999/1");
    }

    @Bench.Says(promise = 15, value = "a point that is OUT of any is OUT of the CHAIN")
    private static void outOfAnyArm() {
        CopyArms x = Bench.made(Bench.arm("a", "plain", "2 1", 0, 0, 0, 10) + Bench.arm("b", "plain", "1 2", 0, 0, 0, 12)
            + Bench.arm("c", "plain", "2 1", 0, 5, 0, 7));
        x.chain(0);
        x.chain(1);
        x.chain(2);
        // Along the x axis a draws 2 x, b x, c 2 x - 5.
        Bench.due("just within b", Bench.copyOfChain(x, 6, 0), "7/1 0/1");
        Bench.due("out of b alone", Bench.copyOfChain(x, 7, 0), "OUT");
        Bench.due("just within c", Bench.copyOfChain(x, -2, 0), "-9/1 0/1");
        Bench.due("out of c alone", Bench.copyOfChain(x, -3, 0), "OUT");
        x.chain(-1);
        x.chain(0);
        Bench.due("just within a", Bench.copyOfChain(x, 10, 0), "20/1 0/1");
        Bench.due("out of a alone", Bench.copyOfChain(x, 11, 0), "OUT");
    }

    @Bench.Says(promise = 15, value = "of a point x, y (fractions, too)")
    private static void outByAFraction() {
        CopyArms x = Bench.made(Bench.plain("a", "2 1") + Bench.arm("b", "plain", "1 2", 0, 0, 0, 4) + Bench.arm("c", "plain", "2 1", 0, 0, 0, 1));
        x.bend(0, 1);
        x.chain(0);
        x.chain(1);
        // a draws (1, 1) at 11/5, 2: a fifth too far for b, and (1, -1) at 9/5, -2: a fifth within.
        Bench.due("a fifth too far", Bench.copyOfChain(x, 1, 1), "OUT");
        Bench.due("a fifth within", Bench.copyOfChain(x, 1, -1), "9/10 -1/1");
        x.chain(-1);
        x.chain(1);
        x.chain(2);
        // b draws (1, 1) at 1/2, 1/2: just 1 from c's pin.
        Bench.due("two halves are one", Bench.copyOfChain(x, 1, 1), "1/1 1/1");
        Bench.due("three are more", Bench.copyOfChain(x, 2, 1), "OUT");
    }

    @Bench.Says(promise = 15, value = "All exactly, as fractions in lowest terms (below above 0).")
    private static void exactlyThroughFourArms() {
        CopyArms x = Bench.made(Bench.plain("a", "1 9") + Bench.plain("b", "1 9") + Bench.plain("c", "1 9") + Bench.plain("d", "1 9"));
        for (int arm = 0; arm < 4; arm++) {
            x.bend(arm, 1);
            x.chain(arm);
        }
        // Each bends by a tenth of y and takes a ninth: behind four, x is (x + 4/10 y) / 6561, y is y / 6561.
        Bench.due("a tenth each", Bench.copyOfChain(x, 0, 1), "2/32805 1/6561");
        for (int arm = 0; arm < 4; arm++) {
            x.bend(arm, 9);
        }
        Bench.due("nine tenths each", Bench.copyOfChain(x, 1, 1), "23/32805 1/6561");
        Bench.due("the other way", Bench.copyOfChain(x, -1, -1), "-23/32805 -1/6561");
        Bench.due("nothing", Bench.copyOfChain(x, 0, 0), "0/1 0/1");
    }

    @Bench.Says(promise = 15, value = "NoSuchElementException: likewise")
    private static void drawOthers() {
        CopyArms x = new CopyArms();
        Bench.due("x 9999", Bench.drawn(x, 9999, 0, 0), 9999);
        Bench.due("x -9999", Bench.drawn(x, -9999, 0, 0), -9999);
        Bench.due("y 9999", Bench.drawn(x, 0, 9999, 2), 9999);
        Bench.due("y -9999", Bench.drawn(x, 0, -9999, 2), -9999);
        Bench.due("what 3", Bench.drawn(x, 0, -9999, 3), 1);
        for (int far : new int[] {10000, -10000, Integer.MAX_VALUE, Integer.MIN_VALUE}) {
            Bench.due("x " + far, Bench.copyOfChain(x, far, 0), "OUT");
            Bench.due("y " + far, Bench.copyOfChain(x, 0, far), "OUT");
        }
        Bench.due("what 4", Bench.drawn(x, 0, 0, 4), Bench.THROWN);
        for (int other : Bench.NOWHERE) {
            Bench.due("what " + other, Bench.drawn(x, 0, 0, other), Bench.THROWN);
        }
    }

    // ---- Promise 16

    @Bench.Says(promise = 16, value = "Points of a map that are OUT of the CHAIN, as bits")
    private static void noneSomeAndAllOut() {
        CopyArms x = Bench.made(Bench.arm("a", "plain", "2 1", 0, 0, 0, 1) + Bench.map("m", "1 to 1", 0, "0 0,1 0,0 1,2 0,1 1,99 99"));
        Bench.due("none without an arm", x.outs(0), 0);
        x.chain(0);
        Bench.due("the last three", x.outs(0), 56);
        x.pin(0, 50, 50);
        Bench.due("all six", x.outs(0), 63);
        x.pin(0, 99, 99);
        Bench.due("all but the last", x.outs(0), 31);
        x.pin(0, 1, 0);
        Bench.due("the third and the last", x.outs(0), 36);
    }

    @Bench.Says(promise = 16, value = "Points of a map that are OUT of the CHAIN, as bits")
    private static void outOfALaterArm() {
        CopyArms x = Bench.made(Bench.plain("a", "2 1") + Bench.arm("b", "plain", "1 2", 0, 0, 0, 8) + Bench.map("m", "1 to 1", 0, "4 0,5 0,2 2,2 3"));
        x.chain(0);
        x.chain(1);
        Bench.due("those that are drawn more than 8 away", x.outs(0), 10);
        x.chain(-1);
        x.chain(1);
        x.chain(0);
        Bench.due("none the other way round", x.outs(0), 0);
    }

    @Bench.Says(promise = 16, value = "NONE: no such map")
    private static void outsOthers() {
        CopyArms x = atWork();
        Bench.due("no third map", x.outs(2), CopyArms.NONE);
        for (int other : Bench.NOWHERE) {
            Bench.due("map " + other, x.outs(other), CopyArms.NONE);
        }
    }

    // ---- Promise 26

    @Bench.Says(promise = 26, value = "A MARK is laid (back: gone back to): true")
    private static void fourMarks() {
        CopyArms x = Bench.made(MOST);
        for (int mark = 0; mark < 4; mark++) {
            x.bend(0, mark);
            Bench.due("laid", x.mark(mark, false), true);
        }
        for (int mark = 3; mark >= 0; mark--) {
            Bench.due("gone back to", x.mark(mark, true), true);
            Bench.due("each holds its own", x.arm(0, 8), mark);
        }
        Bench.due("gone back to again", x.mark(3, true), true);
        Bench.due("it is still there", x.arm(0, 8), 3);
    }

    @Bench.Says(promise = 26, value = "MARKS 0 to 3 hold how arms are, the CHAIN, what is SEEN.")
    private static void marksHoldAll() {
        CopyArms x = atWork();
        String before = Bench.state(x);
        x.mark(2, false);
        Bench.due("laying it changes nothing", Bench.state(x), before);
        for (int arm = 0; arm < 4; arm++) {
            x.set(arm, 1, 0);
            x.turn(arm, 1);
            x.pin(arm, 77, 88);
            x.bend(arm, 3);
        }
        x.chain(-1);
        x.chain(1);
        x.chain(3);
        x.chain(0);
        x.see(0, 1, 1);
        x.see(1, 1, 1);
        x.see(2, 1, 1);
        Bench.due("gone back to", x.mark(2, true), true);
        Bench.due("all as it was", Bench.state(x), before);
    }

    @Bench.Says(promise = 26, value = "MARKS 0 to 3 hold how arms are, the CHAIN, what is SEEN.")
    private static void marksHoldWhereEachCornerWasSeen() {
        CopyArms x = Bench.made(Bench.plain("a", "2 1"));
        int[][] copies = {{0, 0}, {20, 0}, {26, 20}, {6, 20}};
        for (int corner = 0; corner < 4; corner++) {
            x.see(corner, copies[corner][0], copies[corner][1]);
        }
        x.mark(1, false);
        for (int corner = 0; corner < 4; corner++) {
            x.see(corner, copies[corner][0], copies[corner][1] + 1);
            Bench.due("one up is no copy", x.suspects(), 0);
            x.mark(1, true);
            Bench.due("as it was seen, y of " + corner, Bench.crooked(x, 0), 3);
            x.see(corner, copies[corner][0] + 1, copies[corner][1]);
            Bench.due("one to the right is no copy", x.suspects(), 0);
            x.mark(1, true);
            Bench.due("as it was seen, x of " + corner, Bench.crooked(x, 0), 3);
        }
    }

    @Bench.Says(promise = 26, value = "MARKS 0 to 3 hold how arms are, the CHAIN, what is SEEN.")
    private static void marksHoldTheOrderOfTheChain() {
        CopyArms x = Bench.made(Bench.plain("a", "2 1") + Bench.plain("b", "3 1") + Bench.plain("c", "4 1") + Bench.plain("d", "5 1"));
        for (int arm : new int[] {2, 0, 3, 1}) {
            x.chain(arm);
        }
        x.mark(0, false);
        x.chain(-1);
        for (int arm : new int[] {1, 3, 0, 2}) {
            x.chain(arm);
        }
        // Each shakes by 1: c 4*2*5*3, a 2*5*3, d 5*3, b 3.
        Bench.due("another order", x.shakes(0), 120 + 40 + 8 + 4);
        x.mark(0, true);
        Bench.due("the order of the mark", x.shakes(0), 120 + 30 + 15 + 3);
    }

    @Bench.Says(promise = 26, value = "MARKS 0 to 3 hold how arms are, the CHAIN, what is SEEN.")
    private static void marksHoldAnEmptyChainAndNoCorner() {
        CopyArms x = Bench.made(ALL);
        x.mark(0, false);
        x.chain(0);
        x.see(0, 1, 1);
        Bench.due("gone back to", x.mark(0, true), true);
        Bench.due("no chain", x.count(2), 0);
        Bench.due("no corner", x.count(3), 0);
    }

    @Bench.Says(promise = 26, value = "MARKS 0 to 3 hold how arms are, the CHAIN, what is SEEN.")
    private static void marksDoNotHoldTheTape() {
        CopyArms x = Bench.made(ALL);
        Bench.feedText(x, "abc");
        x.mark(0, false);
        Bench.feedText(x, "de");
        x.mark(0, true);
        Bench.due("the tape goes on", x.count(4), 5);
    }

    @Bench.Says(promise = 26, value = "A MARK is laid")
    private static void laidOver() {
        CopyArms x = Bench.made(MOST);
        x.mark(1, false);
        x.pin(0, 1, 2);
        Bench.due("laid over", x.mark(1, false), true);
        x.pin(0, 3, 4);
        x.mark(1, true);
        Bench.due("the last time counts", x.arm(0, 4), 1);
    }

    @Bench.Says(promise = 26, value = "A MARK is laid")
    private static void laidInANewObject() {
        CopyArms x = new CopyArms();
        x.see(1, 5, 5);
        Bench.due("laid", x.mark(3, false), true);
        x.clear();
        Bench.due("gone back to", x.mark(3, true), true);
        Bench.due("seen again", x.count(3), 1);
    }

    @Bench.Says(promise = 26, value = "false: none such")
    private static void noSuchMark() {
        CopyArms x = atWork();
        String before = Bench.state(x);
        Bench.due("a fifth", x.mark(4, false), false);
        Bench.due("back to a fifth", x.mark(4, true), false);
        for (int other : Bench.NOWHERE) {
            Bench.due("mark " + other, x.mark(other, false), false);
            Bench.due("back to " + other, x.mark(other, true), false);
        }
        for (int mark = 0; mark < 4; mark++) {
            Bench.due("nothing was laid on " + mark, x.mark(mark, true), false);
        }
        Bench.due("all stays", Bench.state(x), before);
    }

    @Bench.Says(promise = 26, value = "false: .. nothing is on it (back)")
    private static void nothingIsOnIt() {
        CopyArms x = atWork();
        x.mark(1, false);
        x.bend(0, 4);
        String before = Bench.state(x);
        for (int mark : new int[] {0, 2, 3}) {
            Bench.due("nothing on " + mark, x.mark(mark, true), false);
        }
        Bench.due("all stays", Bench.state(x), before);
        Bench.due("something on 1", x.mark(1, true), true);
    }

    // ---- Promise 27

    @Bench.Says(promise = 27, value = "What 0: arms, 1: maps, 2: arms on the CHAIN, 3: corners SEEN, 4: signs on the TAPE.")
    private static void countsOfNothing() {
        CopyArms x = Bench.made("");
        for (int what = 0; what <= 4; what++) {
            Bench.due("count " + what, x.count(what), 0);
        }
    }

    @Bench.Says(promise = 27, value = "What 0: arms, 1: maps, 2: arms on the CHAIN, 3: corners SEEN, 4: signs on the TAPE.")
    private static void countsOfAllThereCanBe() {
        StringBuilder maps = new StringBuilder();
        for (char name = 'm'; name <= 's'; name++) {
            maps.append(Bench.map("" + name, "1 to 1", 0, "0 0"));
        }
        CopyArms x = Bench.made(sixArms() + maps);
        for (int i = 0; i < 5; i++) {
            x.chain(i);
            x.see(i, i, i);
        }
        Bench.feedText(x, " ".repeat(1001));
        int[] most = {6, 7, 4, 4, 1000};
        for (int what = 0; what <= 4; what++) {
            Bench.due("count " + what, x.count(what), most[what]);
        }
    }

    @Bench.Says(promise = 27, value = "3: corners SEEN")
    private static void cornersSeenTwiceCountOnce() {
        CopyArms x = new CopyArms();
        x.see(3, 1, 1);
        x.see(3, 2, 2);
        Bench.due("one", x.count(3), 1);
        x.see(0, 1, 1);
        Bench.due("two", x.count(3), 2);
    }

    @Bench.Says(promise = 27, value = "NONE for another what.")
    private static void countOthers() {
        CopyArms x = atWork();
        Bench.due("what 5", x.count(5), CopyArms.NONE);
        for (int other : Bench.NOWHERE) {
            Bench.due("what " + other, x.count(other), CopyArms.NONE);
        }
    }

    @Bench.Says(promise = 27, value = "An object is used for at most 512 calls after it has been made")
    private static void theLastCallOfAnObject() {
        CopyArms x = new CopyArms();
        int calls = 0;
        for (int i = 0; i < 127; i++) {
            Bench.due("fed", x.feed(0x61726D0000000000L, 0, 0), 3);
            Bench.due("a fault", x.office(), 1 + 16 * 3);
            Bench.due("seen", x.see(i % 4, i, -i), true);
            Bench.due("marked", x.mark(i % 4, i % 3 != 0 && i >= 4), true);
            calls += 4;
        }
        Bench.due("fed once more", Bench.feedText(x, "map m size 1 to 1 slips ") == 24, true);
        calls += 2;
        x.feed(0x3720706F696E7473L, 0x20303020393B0000L, 0);
        calls++;
        Bench.due("the 512th call", x.office(), 0);
        calls++;
        Bench.due("calls", calls, 512);
    }
}
