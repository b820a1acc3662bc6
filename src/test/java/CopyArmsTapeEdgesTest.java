/** The edges of promises 1 to 3: a new object, the tape, the language of an office and its faults, sentence by sentence. */
public final class CopyArmsTapeEdgesTest {
    private static final String ARM = "arm a plain holes 1 2 turn 0 at 0 0 reach 1 shake 0 bend 0;";
    private static final String MAP = "map m size 1 to 1 slips 0 points 0 0;";
    private static final String[] RESERVED = {"arm", "holes", "turn", "at", "reach", "shake", "bend", "map", "size", "to",
        "slips", "points", "plain", "mirror", "stiff", "loose"};
    private static final long BLANKS = 0x2020202020202020L;
    private static final long LETTERS = 0x7878787878787878L;

    public static void main(String[] args) {
        Bench.runAll(CopyArmsTapeEdgesTest.class);
    }

    private static String manyArms(int count) {
        StringBuilder all = new StringBuilder();
        for (int i = 0; i < count; i++) {
            all.append(ARM.replace("arm a", "arm " + (char) ('a' + i)));
        }
        return all.toString();
    }

    private static String manyMaps(int count) {
        StringBuilder all = new StringBuilder();
        for (int i = 0; i < count; i++) {
            all.append(MAP.replace("map m", "map " + (char) ('m' + i)));
        }
        return all.toString();
    }

    /** A tape of 984 blanks, then so many more as there are signs other than 0 in the two. */
    private static CopyArms nearlyFull(long a, long b) {
        CopyArms x = new CopyArms();
        for (int i = 0; i < 41; i++) {
            x.feed(BLANKS, BLANKS, BLANKS);
        }
        Bench.due("41 times 24 signs", x.count(4), 984);
        x.feed(a, b, 0);
        return x;
    }

    // ---- Promise 1

    @Bench.Says(promise = 1, value = "No arm, no map.")
    private static void newObjectIsEmpty() {
        CopyArms x = new CopyArms();
        for (int what = 0; what <= 4; what++) {
            Bench.due("count " + what, x.count(what), 0);
        }
        for (int what = 0; what <= 9; what++) {
            Bench.due("arm 0, " + what, x.arm(0, what), CopyArms.NONE);
            Bench.due("map 0, " + what, x.map(0, what), CopyArms.NONE);
        }
        Bench.due("hole", x.hole(0, 0), CopyArms.NONE);
        Bench.due("point", x.point(0, 0, false), CopyArms.NONE);
        Bench.due("outs", x.outs(0), CopyArms.NONE);
        Bench.due("sheets", x.sheets(0, 200), CopyArms.NONE);
        Bench.due("descent", x.descent(0), CopyArms.NONE);
    }

    @Bench.Says(promise = 1, value = "No arm, no map.")
    private static void newObjectRefusesHands() {
        CopyArms x = new CopyArms();
        Bench.due("set", x.set(0, 0, 1), false);
        Bench.due("turn", x.turn(0, 0), false);
        Bench.due("pin", x.pin(0, 0, 0), false);
        Bench.due("bend", x.bend(0, 0), false);
        Bench.due("chain", x.chain(0), CopyArms.NONE);
        Bench.due("trace", Bench.traced(x, 0, 0, 0, 0), Bench.THROWN);
        Bench.due("mark", x.mark(0, true), false);
    }

    @Bench.Says(promise = 1, value = "No arm, no map.")
    private static void newObjectAnswersWithoutArms() {
        CopyArms x = new CopyArms();
        Bench.due("drawn", Bench.copyOfChain(x, 5, -7), "5/1 -7/1");
        Bench.due("fitted to 1", x.fitted(7, 7, 0), 0);
        Bench.due("fitted to 2", x.fitted(2, 1, 0), CopyArms.NONE);
        x.see(0, 0, 0);
        Bench.due("no arm is a suspect", x.suspects(), 0);
        Bench.due("none is crooked", Bench.crooked(x, 0), Bench.THROWN);
    }

    @Bench.Says(promise = 1, value = "`NONE = -1`: None.")
    private static void noneIsMinusOne() {
        Bench.due("NONE", CopyArms.NONE, -1);
    }

    // ---- Promise 2

    @Bench.Says(promise = 2, value = "Up to 24 signs come behind the TAPE")
    private static void twentyFourSignsAtOnce() {
        CopyArms x = new CopyArms();
        Bench.due("all", x.feed(LETTERS, LETTERS, LETTERS), 24);
        Bench.due("behind these", x.feed(LETTERS, LETTERS, LETTERS), 48);
        Bench.due("one", x.feed(0, 0, 'x'), 49);
        Bench.due("none", x.feed(0, 0, 0), 49);
    }

    @Bench.Says(promise = 2, value = "come behind the TAPE: the bytes of a, b, c, of each the highest first")
    private static void bytesInOrder() {
        CopyArms x = new CopyArms();
        // Just 24 signs: arm abcdefgh plain holes. In another order their first token would be wrong.
        x.feed(0x61726D2061626364L, 0x6566676820706C61L, 0x696E20686F6C6573L);
        Bench.due("read to the end", x.office(), 1 + 16 * 24);
        x.feed(0x61726D2061626364L, 0x6566676820706C61L, 0x696E20686F6C6573L);
        x.feed(0x2039203820343B20L, 0, 0);
        Bench.due("the ; at place 30 can't stand behind holes", x.office(), 1 + 16 * 30);
    }

    @Bench.Says(promise = 2, value = "others than 10 and 32 .. 126 .. are left out")
    private static void eachByteInEachPlace() {
        for (int sign = 0; sign < 256; sign++) {
            CopyArms x = new CopyArms();
            boolean isTaken = sign == 10 || sign >= 32 && sign <= 126;
            for (int place = 0; place < 8; place++) {
                long word = (long) sign << 8 * place;
                Bench.due("sign " + sign + " in a, place " + place, x.feed(word, 0, 0), isTaken ? 3 * place + 1 : 0);
                Bench.due("sign " + sign + " in b, place " + place, x.feed(0, word, 0), isTaken ? 3 * place + 2 : 0);
                Bench.due("sign " + sign + " in c, place " + place, x.feed(0, 0, word), isTaken ? 3 * place + 3 : 0);
            }
        }
    }

    @Bench.Says(promise = 2, value = "others than 10 and 32 .. 126 .. are left out")
    private static void whatIsLeftOutLeavesNoGap() {
        CopyArms x = new CopyArms();
        // a, 0, r, 9 (a tab), m, 255, 13, 128: the word arm, and nothing else.
        Bench.due("three signs", x.feed(0x610072096DFF0D80L, 0, 0), 3);
        Bench.due("the word arm, then the end", x.office(), 1 + 16 * 3);
        Bench.due("a highest byte of 255", x.feed(0xFF61726D20202020L, 0, 0), 7);
        Bench.due("takes none of the others with it", x.office(), 1 + 16 * 7);
    }

    @Bench.Says(promise = 2, value = "what is beyond 1,000, are left out")
    private static void tapeIsFull() {
        CopyArms x = nearlyFull(BLANKS, 0x2020202020202000L);
        Bench.due("one short of full", x.count(4), 999);
        Bench.due("the first of 24 finds room", x.feed(0x3B78787878787878L, LETTERS, LETTERS), 1000);
        Bench.due("no more do", x.feed(LETTERS, LETTERS, LETTERS), 1000);
        Bench.due("count", x.count(4), 1000);
        Bench.due("it is the first one that stands there", x.office(), 1 + 16 * 999);
    }

    @Bench.Says(promise = 2, value = "what is beyond 1,000, are left out")
    private static void justFull() {
        CopyArms x = nearlyFull(BLANKS, 0x202020202061726DL);
        Bench.due("just 1,000", x.count(4), 1000);
        Bench.due("one more is left out, else it were the word armx", x.feed('x', 0, 0), 1000);
        Bench.due("the word arm, then the end", x.office(), 1 + 16 * 1000);
    }

    @Bench.Says(promise = 2, value = "others than 10 and 32 .. 126, and what is beyond 1,000, are left out: how many there are")
    private static void otherSignsTakeNoRoom() {
        CopyArms x = nearlyFull(BLANKS, 0x2020202020202000L);
        Bench.due("none of these is one", x.feed(0x1F7F80FF00090B0DL, -1L, Long.MIN_VALUE), 999);
        Bench.due("the one behind them still finds room", x.feed(0x1F7F80FF00090B3BL, 0, 0), 1000);
        Bench.due("and stands there", x.office(), 1 + 16 * 999);
    }

    @Bench.Says(promise = 2, value = "how many there are")
    private static void fedAnewBehindAReading() {
        CopyArms x = new CopyArms();
        x.feed(LETTERS, 0, 0);
        x.office();
        Bench.due("from 0 again", x.feed(0, 0, 'x'), 1);
        x.office();
        Bench.due("nothing", x.feed(0, 0, 0), 0);
    }

    // ---- Promise 3: the tape

    @Bench.Says(promise = 3, value = "The TAPE has at most 1,000 signs")
    private static void officeOfJustThousandSigns() {
        String ahead = " ".repeat(1000 - ARM.length());
        CopyArms x = Bench.accepts(ahead + ARM);
        Bench.due("its arm", x.count(0), 1);
        Bench.due("read", x.count(4), 0);
        Bench.due("one sign more has the ; left out", Bench.tell(x, " " + ahead + ARM), 1 + 16 * 1000);
        Bench.due("its arm stays", x.count(0), 1);
    }

    @Bench.Says(promise = 3, value = "what reads it takes it: it is empty then")
    private static void readingEmptiesTheTape() {
        CopyArms x = Bench.made(ARM);
        Bench.due("behind an office", x.count(4), 0);
        Bench.feedText(x, "arm b plain holes 1 2 3 ! more behind the fault");
        Bench.due("a fault", x.office(), 1 + 16 * 24);
        Bench.due("behind a fault", x.count(4), 0);
        Bench.due("nothing of it is left", Bench.tell(x, MAP), 0);
        Bench.due("read again, it is empty: no map any more", x.office(), 0);
        Bench.due("no map any more", x.count(1), 0);
    }

    @Bench.Says(promise = 3, value = "TOKENS, each as long as can be")
    private static void tokensAreAsLongAsCanBe() {
        Bench.refuses("^armb plain holes 1 2 turn 0 at 0 0 reach 1 shake 0;", 1);
        Bench.refuses("arm a ^plainholes 1 2", 1);
        Bench.refuses("arm a plain holes 1 ^23 turn", 4);
        Bench.refuses("arm a plain holes ^12 turn", 4);
        Bench.refuses("map m size 1 to 1 slips 0 points ^123 4;", 4);
        CopyArms x = Bench.accepts("map m size 1 to 1 slips 0 points 12 34;");
        Bench.due("one number", x.point(0, 0, false), 12);
    }

    @Bench.Says(promise = 3, value = "blanks (10, 32) between where one likes")
    private static void blanksWhereOneLikes() {
        CopyArms none = Bench.accepts("arm a plain holes 1 2turn3at 4 5reach6shake7bend8;map m size9to 8slips7points6 5,4 3;");
        Bench.due("turn", none.arm(0, 3), 3);
        Bench.due("bend", none.arm(0, 8), 8);
        Bench.due("the second point", none.point(0, 1, true), 3);
        CopyArms many = Bench.accepts("\n \narm\n\na  plain \n holes 1\n2 turn\n3 at 4\n5 reach 6 shake 7 bend 8 \n ; \nmap m size 9 to 8 slips 7 points 6 5 , 4 3\n;\n ");
        Bench.due("as without", Bench.state(many), Bench.state(none));
    }

    @Bench.Says(promise = 3, value = "blanks (10, 32)")
    private static void onlyTwoSignsAreBlanks() {
        // A tab is no sign of the tape, so that the words run together; other signs are no tokens.
        Bench.refuses("^arm\ta".replace("\t", ""), 1);
        CopyArms x = new CopyArms();
        Bench.feedText(x, "arm\ta plain holes");
        Bench.due("arma", x.office(), 1);
        Bench.refuses("arm a plain^!holes", 1);
        Bench.refuses("arm a plain^~holes", 1);
        Bench.refuses("arm a plain^\"holes", 1);
    }

    @Bench.Says(promise = 3, value = "WORDS (letters a .. z, 8 at most)")
    private static void wordsOfEightLetters() {
        Bench.accepts(ARM.replace("arm a", "arm abcdefgh"));
        Bench.accepts(ARM.replace("arm a", "arm zzzzzzzz"));
        Bench.refuses("arm ^abcdefghi plain", 1);
        Bench.refuses("map ^zzzzzzzzz size", 1);
        Bench.refuses("^armarmarm a", 1);
        Bench.refuses("arm ^" + "a".repeat(900) + " plain", 1);
    }

    @Bench.Says(promise = 3, value = "WORDS (letters a .. z")
    private static void lettersFromAToZ() {
        for (char letter = 'a'; letter <= 'z'; letter++) {
            Bench.accepts(ARM.replace("arm a", "arm " + letter));
        }
        for (char sign : "`{@[AZ_'".toCharArray()) {
            Bench.refuses("arm ^" + sign + " plain", 1);
            Bench.refuses("arm b^" + sign + " plain", 1);
        }
    }

    @Bench.Says(promise = 3, value = "NUMBERS (1 to 4 digits")
    private static void numbersOfFourDigits() {
        CopyArms x = Bench.accepts(ARM.replace("reach 1", "reach 0200"));
        Bench.due("four digits", x.arm(0, 6), 200);
        Bench.refuses("arm a plain holes 1 2 turn 0 at 0 0 reach ^9999 shake", 4);
        Bench.refuses("arm a plain holes 1 2 turn 0 at 0 0 reach ^00200 shake", 1);
        Bench.refuses("arm a plain holes 1 2 turn 0 at 0 0 reach ^00001 shake", 1);
        Bench.refuses("arm a plain holes 1 2 turn 0 at 0 0 reach ^10000 shake", 1);
        // 2 to the 64th and 1 more: a number that is too long is none, however it wraps around.
        Bench.refuses("arm a plain holes 1 2 turn 0 at 0 0 reach ^18446744073709551617 shake", 1);
        Bench.refuses("arm a plain holes 1 2 turn 0 at 0 0 reach ^4294967297 shake", 1);
    }

    @Bench.Says(promise = 3, value = "NUMBERS (1 to 4 digits")
    private static void digitsFrom0To9() {
        for (int digit = 0; digit <= 9; digit++) {
            CopyArms x = Bench.accepts(ARM.replace("bend 0", "bend " + digit));
            Bench.due("digit", x.arm(0, 8), digit);
        }
        for (char sign : "/:-+.".toCharArray()) {
            Bench.refuses("arm a plain holes 1 2 turn ^" + sign + "0", 1);
            Bench.refuses("arm a plain holes 1 2 turn 0^" + sign + "0", 1);
        }
    }

    @Bench.Says(promise = 3, value = "a letter may stand right behind")
    private static void letterBehindANumber() {
        Bench.accepts("arm a plain holes 1 2turn 0at 0 0reach 1shake 0bend 0;");
        Bench.refuses("arm a plain holes 1 2^x", 1);
        Bench.refuses("arm a plain holes 1 ^12345turn", 1);
    }

    @Bench.Says(promise = 3, value = "the signs , ;  All else .. is none.")
    private static void allOtherSignsAreNone() {
        for (char sign = 33; sign <= 126; sign++) {
            boolean isLetter = sign >= 'a' && sign <= 'z';
            boolean isDigit = sign >= '0' && sign <= '9';
            if (sign != ',' && sign != ';' && !isLetter && !isDigit && sign != '^') {
                Bench.refuses("^" + sign, 1);
                Bench.refuses(MAP.replace(";", "^" + sign), 1);
                Bench.refuses("map m size 1 to 1 slips 0 points 0 0^" + sign + "1 1;", 1);
            }
        }
        CopyArms x = new CopyArms();
        Bench.due("the sign ^", Bench.tell(x, MAP + "^"), 1 + 16 * MAP.length());
    }

    @Bench.Says(promise = 3, value = "a longer WORD or NUMBER, too, at its first sign")
    private static void longTokensAtTheirFirstSign() {
        Bench.refuses("arm   ^abcdefghij", 1);
        Bench.refuses("arm a plain holes\n^123456", 1);
        // Where any number can't stand, a long one is told at its first sign as well.
        Bench.refuses("arm ^12345 plain", 1);
        Bench.refuses("arm a plain holes 1 2 3 4 ^12345", 1);
        Bench.refuses("arm a plain holes 1 2 ^turnturnturn", 1);
        // 44 is the number of the sign , and 59 that of ; but a long number is neither.
        Bench.refuses("map m size 1 to 1 slips 0 points 0 0 ^00044 1 1;", 1);
        Bench.refuses("map m size 1 to 1 slips 0 points 0 0 ^00059", 1);
        Bench.refuses("map m size 1 to 1 slips 0 points 0 0 ^44 1 1;", 1);
        Bench.refuses("map m size 1 to 1 slips 0 points 0 0 ^0059", 1);
    }

    // ---- Promise 3: an office

    @Bench.Says(promise = 3, value = "OFFICE: any number of")
    private static void officeOfNothing() {
        CopyArms x = Bench.made(ARM + MAP);
        Bench.due("an empty tape is an office", x.office(), 0);
        Bench.due("no arm", x.count(0), 0);
        Bench.due("no map", x.count(1), 0);
        CopyArms blank = Bench.made(ARM);
        Bench.due("blanks alone are one", Bench.tell(blank, " \n "), 0);
        Bench.due("no arm there", blank.count(0), 0);
        Bench.due("maps alone", Bench.made(MAP).count(1), 1);
    }

    @Bench.Says(promise = 3, value = "arm: 6 at most, numbered as told")
    private static void sixArms() {
        CopyArms x = Bench.accepts(manyArms(6).replace("arm f plain holes 1 2", "arm f loose holes 9 8"));
        Bench.due("six", x.count(0), 6);
        Bench.due("the sixth", x.hole(5, 0), 9);
        Bench.due("no seventh", x.arm(6, 0), CopyArms.NONE);
        Bench.refuses(manyArms(6) + "^arm", 5);
    }

    @Bench.Says(promise = 3, value = "arm: 6 at most, numbered as told")
    private static void numberedAsToldAmongMaps() {
        CopyArms x = Bench.accepts(MAP + ARM + MAP.replace("map m", "map n").replace("slips 0", "slips 9") + ARM.replace("arm a", "arm b").replace("turn 0", "turn 3"));
        Bench.due("the second arm", x.arm(1, 3), 3);
        Bench.due("the second map", x.map(1, 2), 9);
    }

    @Bench.Says(promise = 3, value = "KIND: plain, mirror, stiff, loose")
    private static void kinds() {
        String[] kinds = {"plain", "mirror", "stiff", "loose"};
        for (int kind = 0; kind < 4; kind++) {
            Bench.due(kinds[kind], Bench.accepts(ARM.replace("plain", kinds[kind])).arm(0, 0), kind);
        }
        for (String other : new String[] {"plai", "plains", "bent", "holes", "arm", "1", ",", ";"}) {
            Bench.refuses("arm a ^" + other, 1);
        }
        Bench.refuses("arm a ^", 1);
        Bench.refuses("arm a plain ^stiff holes", 1);
    }

    @Bench.Says(promise = 3, value = "holes: 2 to 4 unlike numbers, 1 to 9")
    private static void fromTwoToFourHoles() {
        Bench.due("two", Bench.accepts(ARM.replace("1 2", "9 1")).arm(0, 9), 2);
        Bench.due("three", Bench.accepts(ARM.replace("1 2", "9 1 5")).arm(0, 9), 3);
        Bench.due("four", Bench.accepts(ARM.replace("1 2", "9 1 5 8")).arm(0, 9), 4);
        Bench.refuses("arm a plain holes ^turn 0", 1);
        Bench.refuses("arm a plain holes 1 ^turn 0", 1);
        Bench.refuses("arm a plain holes 9 1 5 8 ^7 turn 0", 5);
    }

    @Bench.Says(promise = 3, value = "holes: 2 to 4 unlike numbers, 1 to 9")
    private static void holesFromOneToNine() {
        String[] places = {"^", "3 ^", "3 4 ^", "3 4 5 ^"};
        for (String place : places) {
            Bench.refuses("arm a plain holes " + place + "0", 4);
            Bench.refuses("arm a plain holes " + place + "10", 4);
            Bench.refuses("arm a plain holes " + place + "9999", 4);
            String good = place.replace("^", "");
            String more = good.length() < 6 ? " 2" : "";
            Bench.due("a hole 1", Bench.accepts(ARM.replace("1 2", good + "1" + more)).hole(0, good.length() / 2), 1);
            Bench.due("a hole 9", Bench.accepts(ARM.replace("1 2", good + "9" + more)).hole(0, good.length() / 2), 9);
        }
    }

    @Bench.Says(promise = 3, value = "holes: 2 to 4 unlike numbers, 1 to 9")
    private static void holesAreUnlike() {
        Bench.refuses("arm a plain holes 7 ^7", 3);
        Bench.refuses("arm a plain holes 7 8 ^7", 3);
        Bench.refuses("arm a plain holes 7 8 ^8", 3);
        Bench.refuses("arm a plain holes 7 8 9 ^7", 3);
        Bench.refuses("arm a plain holes 7 8 9 ^9", 3);
        Bench.refuses("arm a plain holes 7 8 ^0007", 3);
    }

    @Bench.Says(promise = 3, value = "turn 0 to 3")
    private static void toldTurns() {
        for (int turn = 0; turn <= 3; turn++) {
            Bench.due("turn", Bench.accepts(ARM.replace("turn 0", "turn " + turn)).arm(0, 3), turn);
        }
        Bench.refuses(ARM.replace("turn 0", "turn ^4"), 4);
        Bench.refuses(ARM.replace("turn 0", "turn ^9999"), 4);
        Bench.refuses(ARM.replace("turn 0 ", "turn ^"), 1);
        Bench.refuses(ARM.replace("turn 0 ", "^"), 1);
    }

    @Bench.Says(promise = 3, value = "at: its PIN, x and y, 0 to 99")
    private static void toldPins() {
        CopyArms x = Bench.accepts(ARM.replace("at 0 0", "at 99 0"));
        Bench.due("x 99", x.arm(0, 4), 99);
        Bench.due("y 0", x.arm(0, 5), 0);
        x = Bench.accepts(ARM.replace("at 0 0", "at 0 99"));
        Bench.due("x 0", x.arm(0, 4), 0);
        Bench.due("y 99", x.arm(0, 5), 99);
        Bench.refuses(ARM.replace("at 0 0", "at ^100 0"), 4);
        Bench.refuses(ARM.replace("at 0 0", "at 0 ^100"), 4);
        Bench.refuses(ARM.replace("at 0 0 ", "at 0 ^"), 1);
        Bench.refuses(ARM.replace("at 0 0", "at 0 0 ^0"), 1);
        Bench.refuses(ARM.replace("at 0 0", "at 0 ^, 0"), 1);
    }

    @Bench.Says(promise = 3, value = "reach 1 to 200")
    private static void toldReaches() {
        Bench.due("least", Bench.accepts(ARM).arm(0, 6), 1);
        Bench.due("most", Bench.accepts(ARM.replace("reach 1", "reach 200")).arm(0, 6), 200);
        Bench.refuses(ARM.replace("reach 1", "reach ^0"), 4);
        Bench.refuses(ARM.replace("reach 1", "reach ^201"), 4);
    }

    @Bench.Says(promise = 3, value = "shake 0 to 9")
    private static void toldShakes() {
        Bench.due("least", Bench.accepts(ARM).arm(0, 7), 0);
        Bench.due("most", Bench.accepts(ARM.replace("shake 0", "shake 9")).arm(0, 7), 9);
        Bench.refuses(ARM.replace("shake 0", "shake ^10"), 4);
        Bench.refuses(ARM.replace("shake 0 ", "shake ^"), 1);
    }

    @Bench.Says(promise = 3, value = "EXTRA: bend N (0 to 9), or nothing")
    private static void toldBends() {
        Bench.due("none", Bench.accepts(ARM.replace(" bend 0", "")).arm(0, 8), 0);
        Bench.due("least", Bench.accepts(ARM).arm(0, 8), 0);
        Bench.due("most", Bench.accepts(ARM.replace("bend 0", "bend 9")).arm(0, 8), 9);
        Bench.refuses(ARM.replace("bend 0", "bend ^10"), 4);
        Bench.refuses(ARM.replace("bend 0", "bend ^"), 1);
        Bench.refuses(ARM.replace("bend 0", "bend 1 ^bend 2"), 1);
        Bench.refuses(ARM.replace("bend 0", "^0"), 1);
        Bench.refuses(ARM.replace("bend 0", "^,"), 1);
    }

    @Bench.Says(promise = 3, value = "EXTRA: bend N (0 to 9), or nothing")
    private static void nothingAsExtraIsNoBendOfBefore() {
        CopyArms x = Bench.made(ARM.replace("bend 0", "bend 9"));
        Bench.due("told again", Bench.tell(x, ARM.replace("bend 0", "bend 9")), 0);
        Bench.due("told without", Bench.tell(x, ARM.replace(" bend 0", "")), 0);
        Bench.due("not bent", x.arm(0, 8), 0);
    }

    @Bench.Says(promise = 3, value = "map: 7 at most, numbered as told")
    private static void sevenMaps() {
        CopyArms x = Bench.accepts(manyMaps(7).replace("map s size 1", "map s size 9"));
        Bench.due("seven", x.count(1), 7);
        Bench.due("the seventh", x.map(6, 0), 9);
        Bench.due("no eighth", x.map(7, 0), CopyArms.NONE);
        Bench.refuses(manyMaps(7) + "^map", 5);
    }

    @Bench.Says(promise = 3, value = "arm: 6 at most .. map: 7 at most")
    private static void sixArmsAndSevenMaps() {
        CopyArms x = Bench.accepts(manyArms(6) + manyMaps(7));
        Bench.due("arms", x.count(0), 6);
        Bench.due("maps", x.count(1), 7);
        Bench.refuses(manyArms(6) + manyMaps(7) + "^arm", 5);
        Bench.refuses(manyArms(6) + manyMaps(7) + "^map", 5);
        Bench.refuses(manyArms(6) + manyMaps(7) + "^;", 1);
        Bench.refuses(manyArms(6) + manyMaps(7) + "^1", 1);
    }

    @Bench.Says(promise = 3, value = "size: 1 to 9 to 1 to 9")
    private static void toldSizes() {
        CopyArms x = Bench.accepts(MAP.replace("1 to 1", "9 to 1"));
        Bench.due("9 above", x.map(0, 0), 9);
        x = Bench.accepts(MAP.replace("1 to 1", "1 to 9"));
        Bench.due("9 below", x.map(0, 1), 9);
        Bench.refuses(MAP.replace("1 to 1", "^0 to 1"), 4);
        Bench.refuses(MAP.replace("1 to 1", "^10 to 1"), 4);
        Bench.refuses(MAP.replace("1 to 1", "1 to ^0"), 4);
        Bench.refuses(MAP.replace("1 to 1", "1 to ^10"), 4);
        Bench.refuses(MAP.replace("1 to 1", "1 ^1"), 1);
        Bench.refuses(MAP.replace("1 to 1", "^to 1"), 1);
    }

    @Bench.Says(promise = 3, value = "slips 0 to 255")
    private static void toldSlips() {
        Bench.due("least", Bench.accepts(MAP).map(0, 2), 0);
        Bench.due("most", Bench.accepts(MAP.replace("slips 0", "slips 255")).map(0, 2), 255);
        Bench.refuses(MAP.replace("slips 0", "slips ^256"), 4);
        Bench.refuses(MAP.replace("slips 0 ", "slips ^"), 1);
    }

    @Bench.Says(promise = 3, value = "points: 1 to 6 with a , between")
    private static void fromOneToSixPoints() {
        Bench.due("one", Bench.accepts(MAP).map(0, 3), 1);
        CopyArms x = Bench.accepts(MAP.replace("0 0", "1 2,3 4,5 6,7 8,9 10,11 12"));
        Bench.due("six", x.map(0, 3), 6);
        Bench.due("the sixth", x.point(0, 5, true), 12);
        Bench.refuses(MAP.replace("0 0", "^"), 1);
        Bench.refuses(MAP.replace("0 0", "1 2,3 4,5 6,7 8,9 10,11 12^,13 14"), 5);
        Bench.refuses(MAP.replace("0 0", "1 2 ^3 4"), 1);
        Bench.refuses(MAP.replace("0 0", "1 ^, 2"), 1);
        Bench.refuses(MAP.replace("0 0", "1 2, ^"), 1);
        Bench.refuses(MAP.replace("0 0", "^, 1 2"), 1);
        Bench.refuses(MAP.replace("0 0", "1 2,^, 3 4"), 1);
    }

    @Bench.Says(promise = 3, value = "x and y 0 to 99")
    private static void toldPoints() {
        CopyArms x = Bench.accepts(MAP.replace("0 0", "0 99, 99 0, 0 0, 99 99"));
        int[] points = {0, 99, 99, 0, 0, 0, 99, 99};
        for (int i = 0; i < 4; i++) {
            Bench.due("x of " + i, x.point(0, i, false), points[2 * i]);
            Bench.due("y of " + i, x.point(0, i, true), points[2 * i + 1]);
        }
        Bench.refuses(MAP.replace("0 0", "^100 0"), 4);
        Bench.refuses(MAP.replace("0 0", "0 ^100"), 4);
        Bench.refuses(MAP.replace("0 0", "1 1,1 1,1 1,1 1,1 1,^100 0"), 4);
        Bench.refuses(MAP.replace("0 0", "1 1,1 1,1 1,1 1,1 1,0 ^100"), 4);
    }

    @Bench.Says(promise = 3, value = "points: 1 to 6 with a , between")
    private static void pointsMayBeAlike() {
        CopyArms x = Bench.accepts(MAP.replace("0 0", "7 7,7 7"));
        Bench.due("two", x.map(0, 3), 2);
    }

    @Bench.Says(promise = 3, value = "A NAME is another WORD than arm, holes, turn, at, reach, shake, bend, map, size, to, slips, points, the KINDS")
    private static void reservedWordsAreNoNames() {
        for (String word : RESERVED) {
            Bench.refuses("arm ^" + word + " plain holes 1 2", 1);
            Bench.refuses("map ^" + word + " size 1 to 1", 1);
        }
        Bench.refuses("arm ^7 plain", 1);
        Bench.refuses("arm ^; plain", 1);
        Bench.refuses("arm ^", 1);
        Bench.refuses("map ^", 1);
    }

    @Bench.Says(promise = 3, value = "A NAME is another WORD than arm, holes, turn, ..")
    private static void allOtherWordsAreNames() {
        for (String word : RESERVED) {
            Bench.accepts(ARM.replace("arm a", "arm " + word + "x"));
            Bench.accepts(MAP.replace("map m", "map x" + word));
            Bench.accepts(ARM.replace("arm a", "arm " + word.substring(1)));
        }
        for (String word : new String[] {"none", "office", "hole", "point", "slip", "chain", "extra", "name", "n", "rm"}) {
            Bench.accepts(ARM.replace("arm a", "arm " + word));
        }
    }

    @Bench.Says(promise = 3, value = "no two (arms, maps) are alike")
    private static void namesAreUnlike() {
        Bench.refuses(ARM + "arm ^a plain", 3);
        Bench.refuses(MAP + "map ^m size", 3);
        Bench.refuses(ARM + "map ^a size", 3);
        Bench.refuses(MAP + "arm ^m plain", 3);
        Bench.refuses(manyArms(5) + "arm ^a plain", 3);
        Bench.refuses(manyArms(5) + "arm ^e plain", 3);
        Bench.refuses(manyMaps(6) + "map ^r plain", 3);
        Bench.refuses(manyMaps(6) + manyArms(5) + "arm ^m plain", 3);
    }

    @Bench.Says(promise = 3, value = "no two (arms, maps) are alike")
    private static void namesThatAreNearlyAlike() {
        CopyArms x = Bench.accepts(ARM.replace("arm a", "arm abcdefgh") + ARM.replace("arm a", "arm abcdefgi")
            + ARM.replace("arm a", "arm bbcdefgh") + ARM.replace("arm a", "arm abcdefg") + MAP.replace("map m", "map aa") + MAP.replace("map m", "map a"));
        Bench.due("four arms", x.count(0), 4);
        Bench.due("two maps", x.count(1), 2);
    }

    @Bench.Says(promise = 3, value = "no two (arms, maps) are alike")
    private static void namesOfAFormerOfficeAreFree() {
        CopyArms x = Bench.made(ARM + MAP);
        Bench.due("the same again", Bench.tell(x, ARM + MAP), 0);
        Bench.due("and for the other kind", Bench.tell(x, ARM.replace("arm a", "arm m") + MAP.replace("map m", "map a")), 0);
        Bench.due("and behind a fault", Bench.tell(x, ARM + MAP + "+"), 1 + 16 * (ARM.length() + MAP.length()));
        Bench.due("once more", Bench.tell(x, MAP + ARM), 0);
    }

    // ---- Promise 3: faults

    @Bench.Says(promise = 3, value = "kind + 16 * the place (from 0) of a token")
    private static void placesFromZero() {
        Bench.refuses("^x", 1);
        Bench.refuses(" ^x", 1);
        Bench.refuses(" \n  ^;", 1);
        Bench.refuses(" ".repeat(999) + "^x", 1);
    }

    @Bench.Says(promise = 3, value = "the end being one at the text's length")
    private static void theEndIsAToken() {
        String[] parts = ARM.replace(";", " ;").split(" ");
        StringBuilder text = new StringBuilder();
        for (int i = 0; i < parts.length - 1; i++) {
            text.append(parts[i]);
            Bench.refuses(text + "^", 1);
            text.append("  ");
            Bench.refuses(text + "^", 1);
        }
        String[] words = MAP.replace(";", ", 1 1 ;").split(" ");
        StringBuilder map = new StringBuilder();
        for (int i = 0; i < words.length - 1; i++) {
            map.append(words[i]);
            Bench.refuses(map + "^", 1);
            map.append("\n");
            Bench.refuses(map + "^", 1);
        }
    }

    @Bench.Says(promise = 3, value = "the end being one at the text's length")
    private static void theEndOfAFullTape() {
        Bench.refuses(" ".repeat(997) + "arm^", 1);
        Bench.refuses("arm" + " ".repeat(997) + "^", 1);
    }

    @Bench.Says(promise = 3, value = "of the first token from the left that is wrong")
    private static void theFirstWrongTokenCounts() {
        Bench.refuses("arm a plain holes ^10 0 0", 4);
        Bench.refuses("arm a plain holes 1 ^1 77777", 3);
        Bench.refuses("arm ^at 1", 1);
        Bench.refuses(ARM + "arm ^a bent holes 1 1", 3);
        Bench.refuses(manyArms(6) + "^arm arm", 5);
        Bench.refuses(MAP.replace("0 0", "1 2,3 4,5 6,7 8,9 10,11 12^,,"), 5);
        Bench.refuses("arm a plain holes 1 2 turn ^7 at 100 100", 4);
    }

    @Bench.Says(promise = 3, value = "of the first token from the left that is wrong the least")
    private static void theLeastKindCounts() {
        // A fifth hole may be one too many and wrong otherwise, too.
        Bench.refuses("arm a plain holes 1 2 3 4 ^1", 3);
        Bench.refuses("arm a plain holes 1 2 3 4 ^4", 3);
        Bench.refuses("arm a plain holes 1 2 3 4 ^0", 4);
        Bench.refuses("arm a plain holes 1 2 3 4 ^10", 4);
        Bench.refuses("arm a plain holes 1 2 3 4 ^00005", 1);
        Bench.refuses("arm a plain holes 1 2 3 4 ^5", 5);
        Bench.refuses("arm a plain holes 5 2 3 4 ^1", 5);
        Bench.refuses("arm a plain holes 1 2 3 4 ^9", 5);
    }

    @Bench.Says(promise = 3, value = "1 it is none, or can't stand there")
    private static void tokensThatCantStandThere() {
        String[] wrong = {"arm", "x", "7", ",", ";", "+"};
        String[] ahead = {"", "arm ", "arm a ", "arm a plain ", "arm a plain holes ", "arm a plain holes 1 ", "arm a plain holes 1 2 ",
            "arm a plain holes 1 2 turn ", "arm a plain holes 1 2 turn 0 ", "arm a plain holes 1 2 turn 0 at ",
            "arm a plain holes 1 2 turn 0 at 0 ", "arm a plain holes 1 2 turn 0 at 0 0 ", "arm a plain holes 1 2 turn 0 at 0 0 reach ",
            "arm a plain holes 1 2 turn 0 at 0 0 reach 1 ", "arm a plain holes 1 2 turn 0 at 0 0 reach 1 shake ",
            "arm a plain holes 1 2 turn 0 at 0 0 reach 1 shake 0 ", "arm a plain holes 1 2 turn 0 at 0 0 reach 1 shake 0 bend ",
            "arm a plain holes 1 2 turn 0 at 0 0 reach 1 shake 0 bend 0 ", "map ", "map m ", "map m size ", "map m size 1 ",
            "map m size 1 to ", "map m size 1 to 1 ", "map m size 1 to 1 slips ", "map m size 1 to 1 slips 0 ",
            "map m size 1 to 1 slips 0 points ", "map m size 1 to 1 slips 0 points 0 ", "map m size 1 to 1 slips 0 points 0 0 ",
            "map m size 1 to 1 slips 0 points 0 0, "};
        // What of these may stand behind each, by the rows of the document; a number there is as told, or the fault is 4.
        String[] may = {"arm", "x", "", "", "7", "7", "7", "4", "", "7", "7", "", "7", "", "7", ";", "7", ";", "x", "", "7", "", "7", "", "7", "", "7", "7", ", ;", "7"};
        for (int i = 0; i < ahead.length; i++) {
            for (String token : wrong) {
                boolean isFine = (" " + may[i] + " ").contains(" " + token + " ") || may[i].equals("4") && token.equals("7");
                if (!isFine) {
                    Bench.refuses(ahead[i] + "^" + token, 1);
                }
            }
        }
    }

    @Bench.Says(promise = 3, value = "3 a NAME told already, a hole told already of that arm")
    private static void holesOfAnotherArmAreFree() {
        Bench.refuses("arm a plain holes 3 ^3 turn", 3);
        CopyArms x = Bench.accepts(ARM + ARM.replace("arm a", "arm b") + ARM.replace("arm a", "arm c").replace("1 2", "2 1"));
        Bench.due("three arms with the same holes", x.count(0), 3);
    }

    @Bench.Says(promise = 3, value = "a hole told already of that arm")
    private static void holesOfAFormerOfficeAreFree() {
        CopyArms x = Bench.made(ARM.replace("1 2", "1 2 3 4"));
        Bench.due("told again", Bench.tell(x, ARM.replace("1 2", "4 3 2 1")), 0);
        Bench.due("and again", Bench.tell(x, ARM.replace("1 2", "3 4")), 0);
        Bench.due("two holes now", x.arm(0, 9), 2);
    }

    @Bench.Says(promise = 3, value = "5 one too many: the words arm of a seventh, map of an eighth")
    private static void theSeventhArmAndTheEighthMap() {
        Bench.refuses(manyArms(6) + "^arm g plain holes 1 2 turn 0 at 0 0 reach 1 shake 0;", 5);
        Bench.refuses(manyMaps(7) + "^map t size 1 to 1 slips 0 points 0 0;", 5);
        Bench.refuses(manyMaps(3) + manyArms(6) + "^arm g plain", 5);
        // Six arms leave room for maps, seven maps for arms.
        Bench.accepts(manyArms(6) + MAP);
        Bench.accepts(manyMaps(7) + ARM);
        Bench.refuses(manyArms(6) + "map ^a size", 3);
    }

    @Bench.Says(promise = 3, value = "5 one too many: .. the NUMBER of a fifth hole; the , ahead of a seventh point")
    private static void theFifthHoleAndTheSeventhPoint() {
        Bench.refuses("arm a plain holes 9 8 7 6 ^5", 5);
        Bench.refuses("arm a plain holes 9 8 7 6 ^5 4 3", 5);
        Bench.refuses("arm a plain holes 9 8 7 6 ^turm", 1);
        Bench.refuses("map m size 1 to 1 slips 0 points 0 0,0 0,0 0,0 0,0 0,0 0 ^,", 5);
        Bench.refuses("map m size 1 to 1 slips 0 points 0 0,0 0,0 0,0 0,0 0,0 0 ^7 7", 1);
        Bench.refuses("map m size 1 to 1 slips 0 points 0 0,0 0,0 0,0 0,0 0,0 0 ^map", 1);
    }

    @Bench.Says(promise = 3, value = "its FAULT (all stays then)")
    private static void allStaysBehindAFault() {
        CopyArms x = Bench.made(ARM.replace("1 2", "1 2 3 4") + ARM.replace("arm a", "arm b") + MAP);
        x.set(0, 3, 1);
        x.turn(0, 2);
        x.pin(0, 5, 6);
        x.bend(1, 7);
        x.chain(1);
        x.chain(0);
        x.see(2, -4, 4);
        x.mark(1, false);
        String before = Bench.state(x);
        String wrong = "arm z loose holes 9 8 7 6 turn 3 at 9 9 reach 9 shake 9 bend 9;map y size 9 to 8 slips 7 points 6 5,4 3,!";
        Bench.due("a fault at the very end", Bench.tell(x, wrong), 1 + 16 * wrong.indexOf('!'));
        Bench.due("all as before", Bench.state(x), before);
        Bench.due("its holes, too", x.hole(0, 3), 4);
        Bench.due("its points, too", x.point(0, 0, false), 0);
        x.turn(0, 0);
        Bench.due("the mark is still there", x.mark(1, true), true);
        Bench.due("and holds what it held", Bench.state(x), before);
    }

    @Bench.Says(promise = 3, value = "Without a FAULT it is the OFFICE from then on")
    private static void nothingOfTheFormerOfficeIsLeft() {
        String rich = manyArms(6).replace("1 2", "1 2 3 4") + MAP.replace("0 0", "1 1,2 2,3 3") + MAP.replace("map m", "map n");
        CopyArms x = Bench.made(rich);
        Bench.due("told twice", Bench.tell(x, rich), 0);
        Bench.due("told anew", Bench.tell(x, ARM.replace("1 2", "8 9") + MAP), 0);
        Bench.due("one arm", x.count(0), 1);
        Bench.due("one map", x.count(1), 1);
        Bench.due("no second arm", x.arm(1, 0), CopyArms.NONE);
        Bench.due("no second map", x.map(1, 0), CopyArms.NONE);
        Bench.due("no third hole", x.hole(0, 2), CopyArms.NONE);
        Bench.due("no second point", x.point(0, 1, false), CopyArms.NONE);
        Bench.due("can't be set to it", x.set(0, 0, 2), false);
        Bench.due("can't be chained", x.chain(1), CopyArms.NONE);
        Bench.due("fits by its own holes alone", x.fitted(2, 1, 0), CopyArms.NONE);
    }

    @Bench.Says(promise = 3, value = "arms are SET to their first two holes")
    private static void setToTheFirstTwoHoles() {
        CopyArms x = Bench.made(ARM.replace("1 2", "9 4 1 2"));
        Bench.due("p", x.arm(0, 1), 9);
        Bench.due("q", x.arm(0, 2), 4);
        x.set(0, 3, 2);
        Bench.due("told again", Bench.tell(x, ARM.replace("1 2", "9 4 1 2")), 0);
        Bench.due("p again", x.arm(0, 1), 9);
        Bench.due("q again", x.arm(0, 2), 4);
    }

    @Bench.Says(promise = 3, value = "no CHAIN")
    private static void noChainInANewOffice() {
        CopyArms x = Bench.made(ARM);
        x.chain(0);
        Bench.due("told again", Bench.tell(x, ARM), 0);
        Bench.due("none", x.count(2), 0);
        Bench.due("it may come on it", x.chain(0), 1);
    }

    @Bench.Says(promise = 3, value = "no corner is SEEN")
    private static void noCornerInANewOffice() {
        CopyArms x = new CopyArms();
        x.see(0, 1, 1);
        x.see(3, 1, 1);
        Bench.due("told", Bench.tell(x, ARM), 0);
        Bench.due("none", x.count(3), 0);
        Bench.due("no suspects", x.suspects(), CopyArms.NONE);
    }

    @Bench.Says(promise = 3, value = "no MARK is there")
    private static void noMarkInANewOffice() {
        CopyArms x = Bench.made(ARM);
        for (int mark = 0; mark < 4; mark++) {
            x.mark(mark, false);
        }
        Bench.due("told again", Bench.tell(x, ARM), 0);
        for (int mark = 0; mark < 4; mark++) {
            Bench.due("mark " + mark, x.mark(mark, true), false);
        }
    }
}
