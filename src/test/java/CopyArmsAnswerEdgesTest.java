/** The edges of promises 17 to 25: fitting, corners seen and suspects, shaking, sheets, descent. */
public final class CopyArmsAnswerEdgesTest {
    private static final String UP = Bench.plain("up", "2 1");
    private static final String DOWN = Bench.plain("dn", "1 2");

    public static void main(String[] args) {
        Bench.runAll(CopyArmsAnswerEdgesTest.class);
    }

    private static String sixArms(String holes) {
        StringBuilder all = new StringBuilder();
        for (char name = 'a'; name <= 'f'; name++) {
            all.append(Bench.plain("" + name, holes));
        }
        return all.toString();
    }

    /** Maps of one point each, told as "above to below", slips, and so on. */
    private static String maps(Object... sizesAndSlips) {
        StringBuilder all = new StringBuilder();
        for (int i = 0; i + 1 < sizesAndSlips.length; i += 2) {
            all.append(Bench.map("m" + (char) ('a' + i / 2), (String) sizesAndSlips[i], (Integer) sizesAndSlips[i + 1], "0 0"));
        }
        return all.toString();
    }

    // ---- Promise 17

    private static void dueFitted(CopyArms x, int above, int below, int arms, int ways, int bits) {
        Bench.due("arms for " + above + " / " + below, x.fitted(above, below, 0), arms);
        Bench.due("ways for " + above + " / " + below, x.fitted(above, below, 1), ways);
        Bench.due("bits for " + above + " / " + below, x.fitted(above, below, 2), bits);
    }

    private static void dueNotFitted(CopyArms x, int above, int below) {
        dueFitted(x, above, below, CopyArms.NONE, CopyArms.NONE, CopyArms.NONE);
    }

    @Bench.Says(promise = 17, value = "their SIZES multiplied are just so much (none: 1)")
    private static void fittedByNoArm() {
        CopyArms x = new CopyArms();
        dueFitted(x, 1, 1, 0, 1, 0);
        dueFitted(x, 999, 999, 0, 1, 0);
        dueNotFitted(x, 999, 998);
        CopyArms two = Bench.made(UP + DOWN);
        // Both together make 1, too, but none does by fewer.
        dueFitted(two, 5, 5, 0, 1, 0);
    }

    @Bench.Says(promise = 17, value = "some arms, 3 at most")
    private static void threeArmsButNotFour() {
        CopyArms x = Bench.made(Bench.plain("a", "3 1") + Bench.plain("b", "3 1") + Bench.plain("c", "3 1") + Bench.plain("d", "3 1"));
        dueFitted(x, 3, 1, 1, 4, 1);
        dueFitted(x, 9, 1, 2, 6, 3);
        dueFitted(x, 27, 1, 3, 4, 7);
        dueNotFitted(x, 81, 1);
        dueFitted(x, 1, 27, 3, 4, 7);
        dueNotFitted(x, 1, 81);
    }

    @Bench.Says(promise = 17, value = "some arms .. might each be SET to two unlike holes of its own")
    private static void eachArmOnceByItsOwnHoles() {
        CopyArms x = Bench.made(Bench.plain("a", "2 3") + Bench.plain("b", "5 7"));
        dueFitted(x, 2, 3, 1, 1, 1);
        dueFitted(x, 3, 2, 1, 1, 1);
        dueFitted(x, 10, 21, 2, 1, 3);
        dueFitted(x, 14, 15, 2, 1, 3);
        // Twice the same arm, or a hole of one over a hole of the other, can't be.
        dueNotFitted(x, 4, 9);
        dueNotFitted(x, 2, 5);
        dueNotFitted(x, 2, 1);
    }

    @Bench.Says(promise = 17, value = "some arms .. might each be SET")
    private static void notAsSetNow() {
        CopyArms x = Bench.made(Bench.arm("a", "stiff", "2 1 8", 0, 0, 0, 1));
        x.set(0, 1, 0);
        dueFitted(x, 2, 1, 1, 1, 1);
        dueFitted(x, 8, 2, 1, 1, 1);
        dueFitted(x, 1, 8, 1, 1, 1);
    }

    @Bench.Says(promise = 17, value = "the fewest arms; in how many ways so few might (which arms, and to which holes each)")
    private static void waysOfTheFewest() {
        CopyArms x = Bench.made(sixArms("1 2 4 8"));
        // Each arm is 2 by 2/1, 4/2, 8/4; 4 by 4/1, 8/2; 8 by 8/1.
        dueFitted(x, 2, 1, 1, 18, 1);
        dueFitted(x, 1, 8, 1, 6, 1);
        dueFitted(x, 16, 1, 2, 150, 3);
        dueFitted(x, 32, 1, 2, 60, 3);
        dueFitted(x, 64, 1, 2, 15, 3);
        dueFitted(x, 256, 1, 3, 120, 7);
        dueFitted(x, 512, 1, 3, 20, 7);
        dueFitted(x, 1, 512, 3, 20, 7);
    }

    @Bench.Says(promise = 17, value = "of these the set of arms that is least as bits")
    private static void leastAsBits() {
        CopyArms x = Bench.made(Bench.plain("a", "6 5") + Bench.plain("b", "2 1") + Bench.plain("c", "3 1") + Bench.plain("d", "5 1"));
        // The first with the fourth (9), or the second with the third (6).
        dueFitted(x, 6, 1, 2, 2, 6);
        dueFitted(x, 5, 1, 1, 1, 8);
        CopyArms last = Bench.made(sixArms("9 8") + Bench.map("m", "1 to 1", 0, "0 0"));
        dueFitted(last, 9, 8, 1, 6, 1);
        dueFitted(last, 729, 512, 3, 20, 7);
    }

    @Bench.Says(promise = 17, value = "FITTED to above / below (1 to 999 each)")
    private static void fittedAtTheEdges() {
        CopyArms x = Bench.made(Bench.plain("a", "9 1") + Bench.plain("b", "9 1") + Bench.plain("c", "9 1"));
        dueFitted(x, 729, 1, 3, 1, 7);
        dueFitted(x, 1, 729, 3, 1, 7);
        dueFitted(x, 999, 111, 1, 3, 1);
        dueFitted(x, 111, 999, 1, 3, 1);
        dueNotFitted(x, 999, 1);
        dueNotFitted(x, 1, 999);
        for (int other : new int[] {0, -1, -9, 1000, Integer.MIN_VALUE, Integer.MAX_VALUE}) {
            dueNotFitted(x, other, 1);
            dueNotFitted(x, 1, other);
            dueNotFitted(x, other, other);
        }
        dueNotFitted(x, -9, -1);
        dueNotFitted(x, 1008, 112);
    }

    @Bench.Says(promise = 17, value = "NONE: others, not by 3")
    private static void fittedOthers() {
        CopyArms x = Bench.made(UP);
        Bench.due("what 2 is one", x.fitted(2, 1, 2), 1);
        Bench.due("what 3", x.fitted(2, 1, 3), CopyArms.NONE);
        for (int other : Bench.NOWHERE) {
            Bench.due("what " + other, x.fitted(2, 1, other), CopyArms.NONE);
        }
        dueNotFitted(x, 3, 1);
        dueNotFitted(x, 4, 1);
    }

    // ---- Promise 18

    @Bench.Says(promise = 18, value = "The copy of a corner (0 to 3) is SEEN (x, y -999 to 999; as the last time counts): true")
    private static void seenAtTheEdges() {
        for (int corner = 0; corner <= 3; corner++) {
            CopyArms x = new CopyArms();
            Bench.due("right up", x.see(corner, 999, 999), true);
            Bench.due("one", x.count(3), 1);
            Bench.due("left down", x.see(corner, -999, -999), true);
            Bench.due("still one", x.count(3), 1);
        }
    }

    @Bench.Says(promise = 18, value = "as the last time counts")
    private static void theLastTimeCounts() {
        CopyArms x = Bench.made(UP);
        x.see(1, 20, 0);
        Bench.due("where it is drawn", x.suspects(), 1);
        x.see(1, 21, 0);
        Bench.due("elsewhere", x.suspects(), 0);
        x.see(1, 20, 0);
        Bench.due("there again", x.suspects(), 1);
    }

    @Bench.Says(promise = 18, value = "false: others")
    private static void seeOthers() {
        CopyArms x = Bench.made(UP);
        x.see(1, 20, 0);
        String before = Bench.state(x);
        Bench.due("a fifth corner", x.see(4, 0, 0), false);
        for (int far : new int[] {1000, -1000, Integer.MAX_VALUE, Integer.MIN_VALUE}) {
            Bench.due("x " + far, x.see(1, far, 0), false);
            Bench.due("y " + far, x.see(1, 20, far), false);
            Bench.due("x of another " + far, x.see(2, far, 0), false);
        }
        for (int other : Bench.NOWHERE) {
            Bench.due("corner " + other, x.see(other, 0, 0), false);
        }
        Bench.due("all stays", Bench.state(x), before);
    }

    // ---- Promise 19

    @Bench.Says(promise = 19, value = "No corner is SEEN: true.")
    private static void clearNoneSomeAndAll() {
        CopyArms x = Bench.made(UP);
        Bench.due("nothing to clear", x.clear(), true);
        x.see(1, 20, 0);
        Bench.due("one", x.clear(), true);
        Bench.due("none now", x.count(3), 0);
        for (int corner = 0; corner <= 3; corner++) {
            x.see(corner, 500, 500);
        }
        Bench.due("all", x.clear(), true);
        Bench.due("none again", x.count(3), 0);
        Bench.due("no suspects", x.suspects(), CopyArms.NONE);
        x.see(1, 20, 0);
        Bench.due("what was seen before does not count", x.suspects(), 1);
    }

    @Bench.Says(promise = 19, value = "No corner is SEEN: true.")
    private static void clearLeavesAllElse() {
        CopyArms x = Bench.made(UP + DOWN);
        x.set(0, 1, 0);
        x.chain(1);
        String before = Bench.state(x);
        x.see(2, 1, 1);
        x.clear();
        Bench.due("all else stays", Bench.state(x), before);
    }

    // ---- Promises 20 and 21

    @Bench.Says(promise = 20, value = "NONE: no corner is SEEN")
    private static void noCornerIsSeen() {
        CopyArms x = new CopyArms();
        Bench.due("none in a new object", x.suspects(), CopyArms.NONE);
        x.see(0, 0, 0);
        Bench.due("no arm is none", x.suspects(), 0);
        x.clear();
        Bench.due("none again", x.suspects(), CopyArms.NONE);
    }

    @Bench.Says(promise = 20, value = "copies of the corners (0, 0), (10, 0), (10, 10), (0, 10) of a square")
    private static void eachCorner() {
        CopyArms x = Bench.made(Bench.arm("a", "plain", "3 1", 0, 1, 2, 200));
        // From (1, 2): thrice -1, -2; 9, -2; 9, 8; -1, 8, with no bend.
        int[][] copies = {{-2, -4}, {28, -4}, {28, 26}, {-2, 26}};
        for (int corner = 0; corner <= 3; corner++) {
            x.clear();
            x.see(corner, copies[corner][0], copies[corner][1]);
            Bench.due("corner " + corner, x.suspects(), 1);
            Bench.due("bend for " + corner, Bench.crooked(x, 0), 0);
            x.see(corner, copies[corner][0], copies[corner][1] + 1);
            Bench.due("not one up " + corner, x.suspects(), 0);
            x.see(corner, copies[corner][0] + 1, copies[corner][1]);
            Bench.due("not one to the right " + corner, x.suspects(), 0);
        }
    }

    @Bench.Says(promise = 20, value = "draw each corner SEEN where it was seen")
    private static void allCornersSeen() {
        CopyArms x = Bench.made(UP);
        int[][] copies = {{0, 0}, {20, 0}, {26, 20}, {6, 20}};
        for (int corner = 0; corner <= 3; corner++) {
            x.see(corner, copies[corner][0], copies[corner][1]);
        }
        Bench.due("all four", x.suspects(), 1);
        Bench.due("by three", Bench.crooked(x, 0), 3);
        for (int corner = 0; corner <= 3; corner++) {
            x.see(corner, copies[corner][0] + 2, copies[corner][1]);
            Bench.due("but for " + corner, x.suspects(), 0);
            Bench.due("no bend but for " + corner, Bench.crooked(x, 0), Bench.THROWN);
            x.see(corner, copies[corner][0], copies[corner][1]);
        }
    }

    @Bench.Says(promise = 20, value = "SUSPECTS as bits")
    private static void noneAndAllSuspects() {
        CopyArms x = Bench.made(sixArms("2 1"));
        x.see(2, 20, 20);
        Bench.due("all six", x.suspects(), 63);
        x.turn(3, 2);
        Bench.due("all but one", x.suspects(), 55);
        x.see(2, 20, 21);
        Bench.due("none", x.suspects(), 0);
    }

    @Bench.Says(promise = 20, value = "OUT of reach or not")
    private static void outOfReachOrNot() {
        CopyArms x = Bench.made(Bench.arm("a", "plain", "2 1", 0, 99, 99, 1));
        // From (99, 99): -99, -99, twice.
        x.see(0, -99, -99);
        Bench.due("far out of reach", Bench.copy(x, 0, 0, 0), "OUT");
        Bench.due("a suspect", x.suspects(), 1);
        Bench.due("by no bend", Bench.crooked(x, 0), 0);
    }

    @Bench.Says(promise = 20, value = "with some bend (-9 to 9 tenths) instead of theirs, all else as it is now")
    private static void asItIsNow() {
        CopyArms x = Bench.made("arm a mirror holes 2 1 4 turn 0 at 0 0 reach 9 shake 1 bend 5;");
        x.see(1, -20, 0);
        Bench.due("mirrored", x.suspects(), 1);
        x.turn(0, 1);
        // 10, 0 mirrored -10, 0, turned 0, -10; bent -b, -10; twice.
        Bench.due("not when turned", x.suspects(), 0);
        x.see(1, 0, -20);
        Bench.due("no bend instead of its own", Bench.crooked(x, 0), 0);
        x.set(0, 2, 1);
        x.see(1, -4, -40);
        Bench.due("four times", Bench.crooked(x, 0), 1);
        x.pin(0, 1, 0);
        // 9, 0 from its pin: 0 - 9/10 b, -9; four times: 1 - 36/10 b, -36.
        x.see(1, -17, -36);
        Bench.due("from its pin now", Bench.crooked(x, 0), 5);
        Bench.due("its own bend stays", x.arm(0, 8), 5);
        x.chain(0);
        Bench.due("on a chain or not", x.suspects(), 1);
    }

    @Bench.Says(promise = 21, value = "The least bend by which an arm is a SUSPECT.")
    private static void leastBends() {
        CopyArms x = Bench.made(UP);
        x.see(1, 20, 0);
        Bench.due("any bend does, the least is -9", Bench.crooked(x, 0), -9);
        x.see(0, 0, 0);
        Bench.due("for both corners", Bench.crooked(x, 0), -9);
    }

    @Bench.Says(promise = 21, value = "some bend (-9 to 9 tenths)")
    private static void eachBendToTheEdges() {
        CopyArms x = Bench.made(UP);
        for (int bend = -9; bend <= 9; bend++) {
            x.see(2, 20 + 2 * bend, 20);
            Bench.due("a suspect by " + bend, x.suspects(), 1);
            Bench.due("by " + bend, Bench.crooked(x, 0), bend);
        }
        for (int copy : new int[] {0, 40, 21, -20, 999, -999}) {
            x.see(2, copy, 20);
            Bench.due("no suspect at " + copy, x.suspects(), 0);
            Bench.due("by no bend at " + copy, Bench.crooked(x, 0), Bench.THROWN);
        }
    }

    @Bench.Says(promise = 21, value = "told as whole numbers")
    private static void copiesThatAreNoWholeNumbers() {
        CopyArms x = Bench.made(DOWN + Bench.plain("c", "1 3"));
        // The half of 10 + b, 10; a third of it is nowhere whole.
        int[][] bends = {{5, 0}, {6, 2}, {9, 8}, {4, -2}, {1, -8}};
        for (int[] bend : bends) {
            x.see(2, bend[0], 5);
            Bench.due("by " + bend[1], Bench.crooked(x, 0), bend[1]);
        }
        x.see(2, 0, 5);
        Bench.due("not by -10", Bench.crooked(x, 0), Bench.THROWN);
        x.see(2, 10, 5);
        Bench.due("not by 10", Bench.crooked(x, 0), Bench.THROWN);
        for (int y = 2; y <= 4; y++) {
            x.see(2, 3, y);
            Bench.due("no third", Bench.crooked(x, 1), Bench.THROWN);
        }
    }

    @Bench.Says(promise = 21, value = "NoSuchElementException: others, it is none")
    private static void crookedOthers() {
        CopyArms x = Bench.made(UP + DOWN);
        x.see(2, 20, 20);
        String before = Bench.state(x);
        Bench.due("a suspect", Bench.crooked(x, 0), 0);
        Bench.due("none", Bench.crooked(x, 1), Bench.THROWN);
        Bench.due("no third arm", Bench.crooked(x, 2), Bench.THROWN);
        for (int other : Bench.NOWHERE) {
            Bench.due("arm " + other, Bench.crooked(x, other), Bench.THROWN);
        }
        Bench.due("all stays", Bench.state(x), before);
    }

    @Bench.Says(promise = 21, value = "NoSuchElementException: .. no corner is SEEN")
    private static void crookedWithoutACorner() {
        CopyArms x = Bench.made(UP);
        Bench.due("none seen", Bench.crooked(x, 0), Bench.THROWN);
        x.see(1, 20, 0);
        x.clear();
        Bench.due("none any more", Bench.crooked(x, 0), Bench.THROWN);
        Bench.due("no arm and no corner", Bench.crooked(new CopyArms(), 0), Bench.THROWN);
    }

    // ---- Promise 22

    private static void dueShakes(String what, CopyArms x, long above, long below) {
        Bench.due(what + ", above", x.shakes(0), above);
        Bench.due(what + ", below", x.shakes(1), below);
    }

    @Bench.Says(promise = 22, value = "(0 without arms)")
    private static void shakesWithoutArms() {
        CopyArms x = Bench.made(Bench.shaking("a", "loose", "9 1", 9));
        dueShakes("without arms", x, 0, 1);
        x.chain(0);
        x.chain(-1);
        dueShakes("none any more", x, 0, 1);
        dueShakes("in a new object", new CopyArms(), 0, 1);
    }

    @Bench.Says(promise = 22, value = "a hand's shake (that of the arm; a loose one's twice)")
    private static void shakesOfEachKind() {
        String[] kinds = {"plain", "mirror", "stiff", "loose"};
        int[] due = {18, 18, 18, 36};
        for (int kind = 0; kind < 4; kind++) {
            CopyArms x = Bench.made(Bench.shaking("a", kinds[kind], "2 1", 9));
            x.chain(0);
            dueShakes(kinds[kind], x, due[kind], 1);
            Bench.due("told as it is", x.arm(0, 7), 9);
        }
    }

    @Bench.Says(promise = 22, value = "the sum, over its arms, of the shake times the SIZES of that arm and of all arms behind it")
    private static void shakesByOrder() {
        CopyArms x = Bench.made(Bench.shaking("a", "plain", "2 1", 1) + Bench.shaking("b", "plain", "3 1", 1));
        x.chain(0);
        x.chain(1);
        dueShakes("6 and 3", x, 9, 1);
        x.chain(-1);
        x.chain(1);
        x.chain(0);
        dueShakes("6 and 2", x, 8, 1);
    }

    @Bench.Says(promise = 22, value = "SHAKES of the CHAIN as it is, what 0: above, 1: below")
    private static void mostAndLeastShakes() {
        StringBuilder most = new StringBuilder();
        StringBuilder least = new StringBuilder();
        for (char name = 'a'; name <= 'd'; name++) {
            most.append(Bench.shaking("" + name, "loose", "9 1", 9));
            least.append(Bench.shaking("" + name, "plain", "1 9", 1));
        }
        CopyArms x = Bench.made(most.toString());
        CopyArms y = Bench.made(least.toString());
        for (int arm = 0; arm < 4; arm++) {
            x.chain(arm);
            y.chain(arm);
        }
        dueShakes("18 times 9 + 81 + 729 + 6561", x, 132840, 1);
        dueShakes("1/9 + 1/81 + 1/729 + 1/6561", y, 820, 6561);
    }

    @Bench.Says(promise = 22, value = "fractions in lowest terms (below above 0)")
    private static void shakesInLowestTerms() {
        CopyArms x = Bench.made(Bench.shaking("a", "plain", "2 8", 2) + Bench.shaking("b", "loose", "1 9", 0));
        x.chain(0);
        dueShakes("a half", x, 1, 2);
        x.chain(1);
        dueShakes("a ninth of it", x, 1, 18);
        x.chain(-1);
        x.chain(1);
        dueShakes("a steady hand is 0 / 1", x, 0, 1);
    }

    @Bench.Says(promise = 22, value = "NONE: another what")
    private static void shakesOthers() {
        CopyArms x = Bench.made(UP);
        x.chain(0);
        Bench.due("what 2", x.shakes(2), CopyArms.NONE);
        for (int other : Bench.NOWHERE) {
            Bench.due("what " + other, x.shakes(other), CopyArms.NONE);
        }
    }

    // ---- Promise 23

    private static void dueSteadiest(String what, CopyArms x, long... row) {
        for (int i = 0; i < row.length; i++) {
            Bench.due(what + " " + i, x.steadiest(i), row[i]);
        }
        Bench.due(what + " beyond", x.steadiest(row.length), CopyArms.NONE);
    }

    @Bench.Says(promise = 23, value = "STEADIEST, what 0, 1: its SHAKES, above and below")
    private static void steadiestOfNoArmAndOfOne() {
        CopyArms x = Bench.made(Bench.shaking("a", "plain", "2 1", 1) + Bench.shaking("b", "plain", "3 2", 1));
        dueSteadiest("no arm", x, 0, 1);
        x.chain(1);
        dueSteadiest("one arm", x, 3, 2, 1);
    }

    @Bench.Says(promise = 23, value = "the order of the CHAIN's arms by which that is least")
    private static void leastOrder() {
        CopyArms x = Bench.made(Bench.shaking("a", "plain", "2 1", 1) + Bench.shaking("b", "plain", "3 1", 1) + Bench.shaking("c", "plain", "1 9", 0));
        x.chain(0);
        x.chain(1);
        dueSteadiest("b, then a; c is not on it", x, 8, 1, 1, 0);
        dueShakes("the chain stays as it is", x, 9, 1);
    }

    @Bench.Says(promise = 23, value = "the order of the CHAIN's arms by which that is least")
    private static void leastByAFraction() {
        CopyArms x = Bench.made(Bench.shaking("a", "plain", "1 3", 1) + Bench.shaking("b", "plain", "1 2", 1));
        x.chain(0);
        x.chain(1);
        // a, b: 1/6 + 1/2; b, a: 1/6 + 1/3.
        dueSteadiest("a half is less than two thirds", x, 1, 2, 1, 0);
    }

    @Bench.Says(promise = 23, value = "of equal ones the first (numbers of arms)")
    private static void firstOfEqualOrders() {
        CopyArms x = Bench.made(sixArms("2 1"));
        for (int arm : new int[] {5, 2, 4, 3}) {
            x.chain(arm);
        }
        // 2 + 4 + 8 + 16 by any order.
        dueSteadiest("all alike", x, 30, 1, 2, 3, 4, 5);
    }

    @Bench.Says(promise = 23, value = "of equal ones the first (numbers of arms)")
    private static void firstOfSomeEqualOrders() {
        CopyArms x = Bench.made(Bench.shaking("a", "plain", "9 1", 0) + Bench.shaking("b", "plain", "1 9", 0)
            + Bench.shaking("c", "plain", "2 1", 0) + Bench.shaking("d", "plain", "2 1", 9));
        for (int arm = 0; arm < 4; arm++) {
            x.chain(3 - arm);
        }
        // Only d shakes: 18, times what stands behind it. b alone behind it is best: 2.
        dueSteadiest("a and c ahead, b last", x, 2, 1, 0, 2, 3, 1);
    }

    @Bench.Says(promise = 23, value = "2 + i: the i-th arm; NONE: others")
    private static void steadiestOthers() {
        CopyArms x = Bench.made(sixArms("2 1"));
        for (int arms = 0; arms <= 4; arms++) {
            if (arms > 0) {
                x.chain(arms - 1);
                Bench.due("the last of " + arms, x.steadiest(1 + arms), arms - 1);
            }
            Bench.due("none behind " + arms, x.steadiest(2 + arms), CopyArms.NONE);
            Bench.due("none far behind " + arms, x.steadiest(6), CopyArms.NONE);
        }
        for (int other : Bench.NOWHERE) {
            Bench.due("what " + other, x.steadiest(other), CopyArms.NONE);
        }
    }

    // ---- Promise 24

    private static int sheetsOf(String points, int reach) {
        return Bench.made(Bench.map("m", "1 to 1", 0, points)).sheets(0, reach);
    }

    @Bench.Says(promise = 24, value = "SHEETS of a map by a reach (0 to 200)")
    private static void sheetsByTheEdgesOfReach() {
        Bench.due("one point, reach 0", sheetsOf("50 50", 0), 1);
        Bench.due("six points alike, reach 0", sheetsOf("7 7,7 7,7 7,7 7,7 7,7 7", 0), 1);
        Bench.due("six points unlike, reach 0", sheetsOf("0 0,1 0,0 1,1 1,2 0,0 2", 0), 6);
        Bench.due("the corners, reach 200", sheetsOf("0 0,99 0,0 99,99 99", 200), 1);
        Bench.due("the corners, reach 0", sheetsOf("0 0,99 0,0 99,99 99", 0), 4);
    }

    @Bench.Says(promise = 24, value = "so that each point is within reach of one")
    private static void justWithinReachOfAPin() {
        Bench.due("10 apart, reach 5", sheetsOf("0 0,10 0", 5), 1);
        Bench.due("10 apart, reach 4", sheetsOf("0 0,10 0", 4), 2);
        Bench.due("9 apart, reach 5", sheetsOf("0 0,9 0", 5), 1);
        Bench.due("9 apart, reach 4", sheetsOf("0 0,9 0", 4), 2);
        Bench.due("198 apart, reach 99", sheetsOf("0 0,99 99", 99), 1);
        Bench.due("198 apart, reach 98", sheetsOf("0 0,99 99", 98), 2);
        Bench.due("197 apart, reach 98", sheetsOf("0 99,99 1", 98), 2);
        Bench.due("all corners, reach 99", sheetsOf("0 0,99 0,0 99,99 99", 99), 2);
        Bench.due("all corners, reach 100", sheetsOf("0 0,99 0,0 99,99 99", 100), 1);
    }

    @Bench.Says(promise = 24, value = "PINS (whole numbers 0 to 99)")
    private static void pinsAreWholeNumbers() {
        // The middle of the square, 1/2, 1/2, would be within 1 of all four.
        Bench.due("a square of 1, reach 1", sheetsOf("0 0,1 0,0 1,1 1", 1), 2);
        Bench.due("a square of 1, reach 2", sheetsOf("0 0,1 0,0 1,1 1", 2), 1);
        Bench.due("a square of 1 in the far corner, reach 1", sheetsOf("98 98,99 98,98 99,99 99", 1), 2);
        Bench.due("a square of 2, reach 2", sheetsOf("0 0,2 0,0 2,2 2", 2), 1);
        Bench.due("a square of 2, reach 1: three or four points by one pin", sheetsOf("1 0,0 1,2 1,1 2", 1), 1);
        Bench.due("a pin on the edge", sheetsOf("0 0,0 8,4 4", 4), 1);
        Bench.due("three of a square of 1, by the one at the right angle", sheetsOf("0 0,1 1,1 0", 1), 1);
        Bench.due("three others", sheetsOf("0 1,1 0,1 1", 1), 1);
        Bench.due("three others", sheetsOf("0 1,1 0,0 0", 1), 1);
        Bench.due("three others", sheetsOf("0 0,1 1,0 1", 1), 1);
    }

    @Bench.Says(promise = 24, value = "the fewest PINS")
    private static void theFewestPins() {
        String row = "0 0,10 0,20 0,30 0,40 0,50 0";
        int[][] fewest = {{0, 6}, {4, 6}, {5, 3}, {9, 3}, {10, 2}, {24, 2}, {25, 1}};
        for (int[] reach : fewest) {
            Bench.due("by reach " + reach[0], sheetsOf(row, reach[0]), reach[1]);
        }
        // The most points by one pin are 3 to 6, but then 0 and 9 need one each; 0 to 4 and 5 to 9 are two.
        Bench.due("not the most at once", sheetsOf("0 0,3 0,4 0,5 0,6 0,9 0", 2), 2);
    }

    @Bench.Says(promise = 24, value = "the fewest PINS")
    private static void armsDoNotMatter() {
        CopyArms x = Bench.made(Bench.arm("a", "plain", "2 1", 0, 50, 50, 1) + Bench.map("m", "1 to 1", 0, "0 0,10 0"));
        x.chain(0);
        Bench.due("as without arms", x.sheets(0, 5), 1);
    }

    @Bench.Says(promise = 24, value = "NONE: others")
    private static void sheetsOthers() {
        CopyArms x = Bench.made(maps("1 to 1", 0, "1 to 1", 0));
        Bench.due("the second map", x.sheets(1, 200), 1);
        Bench.due("no third map", x.sheets(2, 200), CopyArms.NONE);
        Bench.due("reach 201", x.sheets(1, 201), CopyArms.NONE);
        for (int other : Bench.NOWHERE) {
            Bench.due("map " + other, x.sheets(other, 1), CopyArms.NONE);
            Bench.due("reach " + other, x.sheets(0, other), CopyArms.NONE);
        }
    }

    // ---- Promise 25

    /** The row is: the cost, the first, from which each map is. */
    private static void dueDescent(String what, CopyArms x, int... row) {
        for (int i = 0; i < row.length; i++) {
            Bench.due(what + " " + i, x.descent(i), row[i]);
        }
        Bench.due(what + " beyond", x.descent(row.length), CopyArms.NONE);
    }

    private static void dueNoDescent(String what, CopyArms x) {
        for (int i = -1; i <= 10; i++) {
            Bench.due(what + " " + i, x.descent(i), CopyArms.NONE);
        }
    }

    @Bench.Says(promise = 25, value = "NONE: .. no map")
    private static void descentOfNoMap() {
        dueNoDescent("a new object", new CopyArms());
        dueNoDescent("arms alone", Bench.made(UP + DOWN));
    }

    @Bench.Says(promise = 25, value = "the FIRST from itself")
    private static void descentOfOneMap() {
        dueDescent("without arms", Bench.made(maps("3 to 7", 255)), 0, 0, 0);
        dueDescent("with arms", Bench.made(UP + DOWN + maps("3 to 7", 255)), 0, 0, 0);
    }

    @Bench.Says(promise = 25, value = "NONE: .. none can be")
    private static void noDescentCanBe() {
        dueNoDescent("no arm", Bench.made(maps("1 to 1", 0, "2 to 1", 0)));
        dueNoDescent("no arm for it", Bench.made(UP + maps("1 to 1", 0, "3 to 1", 0)));
        dueNoDescent("alike, but no arm has the size 1", Bench.made(UP + maps("1 to 1", 0, "1 to 1", 0)));
        dueNoDescent("two that none can be from another", Bench.made(UP + maps("1 to 1", 0, "2 to 1", 0, "5 to 1", 0)));
        // Two may be copied from one, but neither from the other.
        dueNoDescent("two firsts", Bench.made(UP + maps("1 to 1", 0, "2 to 1", 0, "1 to 1", 0)));
    }

    @Bench.Says(promise = 25, value = "each other one is a copy of another one, none of itself by way of others")
    private static void noneOfItselfByWayOfOthers() {
        // The first two might be from each other, the third FIRST: but then they were of themselves.
        dueNoDescent("a ring", Bench.made(UP + DOWN + maps("1 to 1", 0, "2 to 1", 0, "7 to 1", 0)));
        // The cheapest for b is c and for c is b; one of them must be from a, or a from b.
        CopyArms x = Bench.made(UP + DOWN + maps("1 to 1", 0, "2 to 1", 15, "1 to 1", 31));
        dueDescent("no ring though it is cheaper", x, 5, 0, 0, 0, 1);
    }

    @Bench.Says(promise = 25, value = "A copy is made by an arm as it is SET now: its size is that of the one it is from times the SIZE of some arm")
    private static void byArmsAsTheyAreSetNow() {
        CopyArms x = Bench.made(Bench.plain("a", "2 1 3") + maps("1 to 1", 0, "2 to 1", 1));
        dueDescent("twice", x, 1, 0, 0, 0);
        x.set(0, 1, 0);
        dueDescent("half", x, 1, 1, 1, 1);
        x.set(0, 2, 1);
        dueNoDescent("thrice", x);
        // 2/4 times 9/3 is 3/2.
        dueDescent("sizes that are not in lowest terms", Bench.made(Bench.plain("a", "9 3") + maps("2 to 4", 0, "6 to 4", 0)), 0, 0, 0, 0);
        dueDescent("the largest and the least", Bench.made(Bench.plain("a", "9 1") + maps("9 to 9", 0, "9 to 1", 0, "1 to 9", 0)), 0, 2, 2, 0, 2);
    }

    @Bench.Says(promise = 25, value = "A copy .. costs how many slips they do not have in common")
    private static void costsOfSlips() {
        int[][] slips = {{0, 0, 0}, {255, 255, 0}, {0, 255, 8}, {255, 0, 8}, {1, 2, 2}, {128, 0, 1}, {170, 85, 8}, {3, 1, 1}};
        for (int[] pair : slips) {
            CopyArms x = Bench.made(UP + maps("1 to 1", pair[0], "2 to 1", pair[1]));
            dueDescent(pair[0] + " and " + pair[1], x, pair[2], 0, 0, 0);
        }
    }

    @Bench.Says(promise = 25, value = "DESCENT of all maps: one is FIRST, each other one is a copy of another one")
    private static void descentOfSevenMaps() {
        CopyArms x = Bench.made(UP + DOWN + maps("1 to 1", 0, "2 to 1", 255, "2 to 1", 255, "2 to 1", 255, "2 to 1", 255, "2 to 1", 255, "2 to 1", 255));
        dueDescent("the dearest", x, 48, 0, 0, 0, 0, 0, 0, 0, 0);
        CopyArms row = Bench.made(DOWN + maps("1 to 8", 1, "1 to 4", 3, "1 to 2", 7, "1 to 1", 15, "2 to 1", 31, "4 to 1", 63, "8 to 1", 127));
        dueDescent("a row, the last one first", row, 6, 6, 1, 2, 3, 4, 5, 6, 6);
    }

    @Bench.Says(promise = 25, value = "of equal ones the least row: which one is FIRST")
    private static void leastFirstOfEqualOnes() {
        dueDescent("either", Bench.made(UP + DOWN + maps("2 to 1", 1, "1 to 1", 0)), 1, 0, 0, 0);
        dueDescent("only the other one", Bench.made(UP + maps("2 to 1", 1, "1 to 1", 0)), 1, 1, 1, 1);
    }

    @Bench.Says(promise = 25, value = "The FIRST with which all cost least together")
    private static void theCostGoesAheadOfTheRow() {
        // By 2 and by 1/4 there are three rows: a, b, c for 3 + 1; b, c, a for 1 + 2; c, a, b for 2 + 3.
        CopyArms x = Bench.made(UP + Bench.plain("q", "1 4") + maps("1 to 1", 0, "2 to 1", 7, "4 to 1", 6));
        dueDescent("the second is first", x, 3, 1, 2, 1, 1);
    }

    @Bench.Says(promise = 25, value = "of equal ones the least row: .. then from which each map is (map 0 ahead")
    private static void leastRowOfEqualOnes() {
        CopyArms x = Bench.made(UP + DOWN + maps("1 to 1", 0, "2 to 1", 0, "1 to 1", 0, "2 to 1", 0));
        dueDescent("all for nothing", x, 0, 0, 0, 0, 1, 0);
        CopyArms y = Bench.made(UP + DOWN + maps("1 to 1", 0, "1 to 1", 0, "2 to 1", 0));
        dueDescent("the second from the third, the third from the first", y, 0, 0, 0, 2, 0);
        // The third and the fourth are alike: either is from the first two for 1, the other one from it for nothing.
        CopyArms z = Bench.made(UP + DOWN + maps("1 to 1", 0, "2 to 1", 0, "1 to 1", 1, "2 to 1", 1));
        dueDescent("the third from the second, not from the fourth", z, 1, 0, 0, 0, 1, 2);
    }

    @Bench.Says(promise = 25, value = "what 0: the cost, 1: the FIRST, 2 + k: from which map k is; NONE: others")
    private static void descentOthers() {
        CopyArms x = Bench.made(UP + maps("1 to 1", 0, "2 to 1", 0));
        Bench.due("from which the last map is", x.descent(3), 0);
        Bench.due("no third map", x.descent(4), CopyArms.NONE);
        for (int other : Bench.NOWHERE) {
            Bench.due("what " + other, x.descent(other), CopyArms.NONE);
        }
    }
}
