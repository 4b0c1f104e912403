import java.math.BigInteger;
import java.util.ArrayList;
import java.util.Arrays;
import java.util.List;

/** The edges of SCRIPTS: elements, numbers, each operation, each fault. */
final class ScriptEdges {
    private static final String TWO_SCRIPTS = "An input's script is run, and then, with the stack that it leaves (and an "
            + "empty side stack), that of the coin;";
    private static final String FAILS = "it FAILS if one of them stops with a fault, or at the end the stack is empty or its "
            + "top is not true.";
    private static final String ELEMENT = "An ELEMENT are 0 .. 120 bytes;";
    private static final String TRUE = "TRUE if some byte is not 0, unless that is the last one alone, and 128.";
    private static final String TOGETHER = "There are a STACK and a SIDE stack, together at most 60.";
    private static final String NUMBER = "A NUMBER: no bytes are 0; else the lowest byte first, the highest bit of the last "
            + "byte a sign (1: below 0).";
    private static final String OPERANDS = "As operands at most 4 bytes, also longer than need be;";
    private static final String RESULTS = "results as short as can be (no last byte 0 or 128 that is not needed for the "
            + "sign).";
    private static final String PUSH = "Each OPERATION begins with its code: 0 .. 75 push the next so many bytes;";
    private static final String LONG_PUSH = "76 those that the next byte, 77 those that the next two (low first) tell;";
    private static final String SMALL = "79 pushes -1, 81 .. 96 push 1 .. 16; 97 nothing.";
    private static final String IF = "99 takes the top: if it is true what follows is done, up to 103 or 104, else not; 100 "
            + "the other way round;";
    private static final String ELSE = "103 turns that round;";
    private static final String END = "104 ends the latest 99 or 100;";
    private static final String NOT_DONE = "in a part that is not done only these are counted as pairs, taking nothing, and "
            + "pushes are passed over with their bytes.";
    private static final String MUST = "105 takes the top, which must be true; 106 stops.";
    private static final String ASIDE = "107 takes the top to the side stack, 108 back.";
    private static final String MOVES = "109 x1 x2: none. 110 x1 x2: x1 x2 x1 x2. 111 x1 x2 x3: x1 x2 x3 x1 x2 x3. 112 x1 x2 "
            + "x3 x4: x1 x2 x3 x4 x1 x2. 113 x1 .. x6: x3 x4 x5 x6 x1 x2. 114 x1 x2 x3 x4: x3 x4 x1 x2.";
    private static final String IF_TRUE = "115 x: x x if it is true, else x.";
    private static final String DEPTH = "116 pushes how many the stack has.";
    private static final String MORE_MOVES = "117 x: none. 118 x: x x. 119 x1 x2: x2. 120 x1 x2: x1 x2 x1.";
    private static final String PICK = "121 takes a number n, pushes a copy of the element with n above it; 122 moves it.";
    private static final String LAST_MOVES = "123 x1 x2 x3: x2 x3 x1. 124 x1 x2: x2 x1. 125 x1 x2: x2 x1 x2.";
    private static final String SIZE = "130 x: x and how many bytes it has.";
    private static final String SAME = "135 x1 x2: 1 if they are the same bytes, else 0; 136 the same, and 105.";
    private static final String ONE = "139 a + 1. 140 a - 1. 143 -a. 144 the number without its sign. 145 whether it is 0. 146 "
            + "whether it is not.";
    private static final String SUM = "147 a b: a + b. 148 a - b.";
    private static final String BOTH = "154 whether neither is 0. 155 whether not both are. 156 whether they are like. 157 the "
            + "same, and 105. 158 whether they are not.";
    private static final String ORDER = "159 a below b. 160 above. 161 not above. 162 not below. 163 the lesser. 164 the "
            + "greater.";
    private static final String WITHIN = "165 x a b: whether a <= x < b. (Whether: the number 1 or 0.)";
    private static final String DIGESTS = "166 x: its RIPEMD-160 (ISO/IEC 10118-3); 168 its digest; 169 the RIPEMD-160 of its "
            + "digest; 170 its name.";
    private static final String CUT = "FAULTS: a push without all its bytes, or of more than 120 bytes (these two in parts that "
            + "are not done, too);";
    private static final String MOST = "more than 100 operations in one script with codes above 96 (also such as are not done; "
            + "for 174 and 175 that are done each key is one more);";
    private static final String OTHER = "another code (in what is done);";
    private static final String FEW = "too few elements;";
    private static final String WIDE = "numbers of too many bytes;";
    private static final String NOT_SO = "n, m, or the n of 121 and 122 (at most one less than there are) not so;";
    private static final String UNTRUE = "105 of what is not true; 106;";
    private static final String ALONE = "103 or 104 alone;";
    private static final String SIXTY = "more than 60 elements;";
    private static final String OPEN = "99 or 100 without 104 at the end.";

    private ScriptEdges() {
    }

    static void all() {
        Edge.of(3, TWO_SCRIPTS, "the stack stays, the side stack does not", ScriptEdges::twoScripts);
        Edge.of(3, TWO_SCRIPTS, "empty scripts", ScriptEdges::emptyScripts);
        Edge.of(3, FAILS, "a fault in the first, a fault in the second", ScriptEdges::faultInOne);
        Edge.of(3, FAILS, "an empty stack, a top that is not true", ScriptEdges::atTheEnd);
        Edge.of(3, ELEMENT, "0 bytes, 120 bytes", ScriptEdges::sizesOfElements);
        Edge.of(3, TRUE, "bytes 0 and a last byte 128", ScriptEdges::truth);
        Edge.of(3, TOGETHER, "60 and 61, on one stack and on both", ScriptEdges::sixtyTogether);
        Edge.of(3, TOGETHER, "60 and 61 in the second script", ScriptEdges::sixtyInTheSecond);
        Edge.of(3, NUMBER, "0 and -0, 127 and 128, the highest bit", ScriptEdges::numbers);
        Edge.of(3, OPERANDS, "4 bytes and 5, and longer than need be", ScriptEdges::operands);
        Edge.of(3, RESULTS, "0, 127, 128, 255, 256, 32767, 32768 and so on", ScriptEdges::results);
        Edge.of(3, RESULTS, "5 bytes", ScriptEdges::longResults);
        Edge.of(3, PUSH, "0, 1, 75", ScriptEdges::shortPushes);
        Edge.of(3, LONG_PUSH, "0, 1, 75, 76, 120", ScriptEdges::longPushes);
        Edge.of(3, LONG_PUSH, "the second byte counts 256", ScriptEdges::twoBytes);
        Edge.of(3, SMALL, "-1, 1, 16, and nothing", ScriptEdges::smallNumbers);
        Edge.of(3, IF, "true and not, with 103 and without", ScriptEdges::parts);
        Edge.of(3, IF, "an element that is not true though it has bytes", ScriptEdges::partsByTruth);
        Edge.of(3, ELSE, "once, twice, three times", ScriptEdges::turns);
        Edge.of(3, END, "parts in parts", ScriptEdges::nested);
        Edge.of(3, NOT_DONE, "pairs on an empty stack", ScriptEdges::pairsNotDone);
        Edge.of(3, NOT_DONE, "pushes whose bytes are 103 and 104", ScriptEdges::pushesNotDone);
        Edge.of(3, MUST, "true, not true", ScriptEdges::must);
        Edge.of(3, ASIDE, "one, two, none", ScriptEdges::aside);
        Edge.of(3, MOVES, "just so many elements, and more", ScriptEdges::moves);
        Edge.of(3, IF_TRUE, "true, no bytes, 0, 128", ScriptEdges::twiceIfTrue);
        Edge.of(3, DEPTH, "0, 1, 59", ScriptEdges::depth);
        Edge.of(3, MORE_MOVES, "just so many elements, and more", ScriptEdges::moreMoves);
        Edge.of(3, PICK, "n is 0, and one less than there are", ScriptEdges::picks);
        Edge.of(3, LAST_MOVES, "just so many elements, and more", ScriptEdges::lastMoves);
        Edge.of(3, SIZE, "0, 1, 120 bytes", ScriptEdges::sizes);
        Edge.of(3, SAME, "other sizes, other bytes, no bytes", ScriptEdges::sameBytes);
        Edge.of(3, ONE, "around 0 and at the ends", ScriptEdges::ofOne);
        Edge.of(3, SUM, "around 0 and at the ends", ScriptEdges::sums);
        Edge.of(3, BOTH, "0, -0, like ones", ScriptEdges::ofTwo);
        Edge.of(3, ORDER, "one less, like, one more", ScriptEdges::order);
        Edge.of(3, WITHIN, "x is a - 1, a, b - 1, b", ScriptEdges::within);
        Edge.of(3, DIGESTS, "of no bytes, and of the sizes where a part of 64 is full", ScriptEdges::digests);
        Edge.of(3, CUT, "a byte is missing", ScriptEdges::cutPushes);
        Edge.of(3, CUT, "120 bytes and 121", ScriptEdges::widestPush);
        Edge.of(3, CUT, "in parts that are not done", ScriptEdges::cutWhereNotDone);
        Edge.of(3, MOST, "100 and 101", ScriptEdges::mostOperations);
        Edge.of(3, MOST, "in each script", ScriptEdges::mostInEach);
        Edge.of(3, MOST, "codes 96 and 97", ScriptEdges::codesThatCount);
        Edge.of(3, MOST, "such as are not done", ScriptEdges::mostNotDone);
        Edge.of(3, MOST, "the keys of 174 and 175", ScriptEdges::keysCount);
        Edge.of(3, OTHER, "each code from 0 to 255", ScriptEdges::otherCodes);
        Edge.of(3, FEW, "one less than each takes", ScriptEdges::tooFew);
        Edge.of(3, FEW, "what lies on the side stack does not count", ScriptEdges::tooFewHere);
        Edge.of(3, WIDE, "5 bytes as each operand", ScriptEdges::tooManyBytes);
        Edge.of(3, NOT_SO, "n of 121 and 122", ScriptEdges::noSuchElement);
        Edge.of(3, NOT_SO, "n and m of 174 and 175", ScriptEdges::noSuchNumber);
        Edge.of(3, UNTRUE, "105, and what ends with it", ScriptEdges::untrue);
        Edge.of(3, ALONE, "at first, and behind a pair", ScriptEdges::alone);
        Edge.of(3, SIXTY, "61 for a moment, and by each way to push", ScriptEdges::moreThanSixty);
        Edge.of(3, OPEN, "in each script", ScriptEdges::open);
    }

    private static byte[] b(int... ones) {
        return Kit.bytes(ones);
    }

    private static Object[] s(Object... parts) {
        return parts;
    }

    private static void yes(Object... parts) {
        Coin.yes(parts);
    }

    private static void no(Object... parts) {
        Coin.no(parts);
    }

    private static void leaves(Object[] script, byte[]... elements) {
        Coin.leaves(script, elements);
    }

    private static void two(String what, byte[] script, byte[] lock, boolean due) {
        Edge.due(what, Coin.holds(script, lock), due);
    }

    private static void twoScripts() {
        two("two elements stay in their order", Kit.script(85, 86), Kit.script(86, 136, 85, 136, 81), true);
        two("on the side", Kit.script(81, 81, 107), Kit.script(108), false);
        two("on the side, not asked for", Kit.script(81, 81, 107), b(), true);
        two("parts do not go on", Kit.script(81, 81, 99), Kit.script(104), false);
    }

    private static void emptyScripts() {
        two("both", b(), b(), false);
        two("the first", b(), b(81), true);
        two("the second", b(81), b(), true);
    }

    private static void faultInOne() {
        two("in the first", b(81, 106), b(81), false);
        two("in the second", b(81), b(81, 106), false);
        two("in none", b(81), b(81), true);
        two("a first whose top is not true", b(0), b(81), true);
        two("a first that leaves nothing", b(81, 117), b(81), true);
    }

    private static void atTheEnd() {
        no(81, 117);
        no();
        no(0);
        no(81, 0);
        yes(0, 81);
        no(81, b(128));
        no(81, b(0));
        yes(b(129));
    }

    private static void sizesOfElements() {
        leaves(s(0), b());
        leaves(s(Kit.repeated(5, 75), 130), Kit.repeated(5, 75), b(75));
        byte[] most = Kit.repeated(5, 120);
        yes(most, 130, b(120), 136);
        yes(most, 118, 136, 81);
        no(Kit.repeated(5, 121), 130, b(121), 136);
    }

    private static void truth() {
        byte[][] untrue = {b(), b(0), b(128), b(0, 0), b(0, 128), new byte[4], b(0, 0, 0, 0, 128), new byte[120],
            Kit.joined(new byte[119], b(128))};
        for (byte[] element : untrue) {
            no(81, element);
        }
        byte[][] isTrue = {b(1), b(127), b(129), b(255), b(128, 0), b(128, 128), b(1, 0), b(1, 128), b(0, 1), b(0, 129),
            Kit.joined(b(1), new byte[119]), Kit.joined(new byte[119], b(1)), Kit.joined(new byte[118], b(128, 0))};
        for (byte[] element : isTrue) {
            yes(element);
        }
    }

    private static Object[] times(int often, Object code) {
        return Coin.times(often, code);
    }

    private static void sixtyTogether() {
        yes(times(60, 81));
        no(times(61, 81));
        yes(Coin.all(times(60, 81), s(107)));
        no(Coin.all(times(60, 81), s(107, 81, 81)));
        no(Coin.all(times(60, 81), s(107, 81)));
        yes(Coin.all(times(30, 81), times(29, 107), times(30, 81)));
        no(Coin.all(times(30, 81), times(29, 107), times(31, 81)));
        yes(Coin.all(times(60, 81), times(59, 107), times(40, 108)));
    }

    private static void sixtyInTheSecond() {
        two("1 and 59", b(81), Kit.repeated(81, 59), true);
        two("1 and 60", b(81), Kit.repeated(81, 60), false);
        two("60 and none", Kit.repeated(81, 60), b(), true);
        two("60 and one", Kit.repeated(81, 60), b(81), false);
        two("60, one aside and so gone, and one", Kit.script(Coin.all(times(60, 81), s(107))), b(81), true);
        two("60, one aside and so gone, and two", Kit.script(Coin.all(times(60, 81), s(107))), b(81, 81), false);
    }

    private static void numbers() {
        byte[][] zeros = {b(), b(0), b(128), b(0, 0), b(0, 128), b(0, 0, 0), b(0, 0, 0, 0), b(0, 0, 0, 128)};
        for (byte[] zero : zeros) {
            leaves(s(zero, 145), b(1));
        }
        leaves(s(b(1), b(127), 147), b(128, 0));
        leaves(s(b(128, 0), b(127), 159), b());
        leaves(s(b(129), b(255), 160), b(1));
        leaves(s(b(129), 0, 159), b(1));
        leaves(s(b(128, 128), b(255), 159), b(1));
        leaves(s(b(0, 1), b(255, 0), 148), b(1));
        leaves(s(b(1, 2, 3, 4), b(1, 2, 3, 4), 156), b(1));
        leaves(s(b(4, 3, 2, 1), b(1, 2, 3, 4), 159), b(1));
        leaves(s(b(255, 255, 255, 255), b(255, 255, 255, 127), 147), b());
    }

    private static void operands() {
        leaves(s(b(255, 255, 255, 127), 140), b(254, 255, 255, 127));
        no(81, b(255, 255, 255, 127, 0), 140);
        no(81, b(0, 0, 0, 0, 0), 145);
        no(81, b(1, 0, 0, 0, 0), 139);
        leaves(s(b(5), 139), b(6));
        leaves(s(b(5, 0), 139), b(6));
        leaves(s(b(5, 0, 0), 139), b(6));
        leaves(s(b(5, 0, 0, 0), 139), b(6));
        leaves(s(b(5, 0, 0, 128), 140), b(134));
        leaves(s(b(0, 0, 0, 128), 140), b(129));
    }

    private static void results() {
        int[] ends = {0, 1, 126, 127, 128, 129, 255, 256, 32767, 32768, 65535, 65536, 8388607, 8388608, 16777215, 16777216};
        byte[][] dues = {b(), b(1), b(126), b(127), b(128, 0), b(129, 0), b(255, 0), b(0, 1), b(255, 127), b(0, 128, 0),
            b(255, 255, 0), b(0, 0, 1), b(255, 255, 127), b(0, 0, 128, 0), b(255, 255, 255, 0), b(0, 0, 0, 1)};
        for (int i = 0; i < ends.length; i++) {
            leaves(s(number(ends[i] - 1), 139), dues[i]);
            byte[] below = dues[i].clone();
            if (below.length > 0) {
                below[below.length - 1] |= (byte) 128;
            }
            leaves(s(number(-ends[i] + 1), 140), below);
        }
    }

    private static byte[] number(long n) {
        return Scripts.bytes(BigInteger.valueOf(n));
    }

    private static void longResults() {
        leaves(s(b(255, 255, 255, 127), 139), b(0, 0, 0, 128, 0));
        leaves(s(b(255, 255, 255, 255), 140), b(0, 0, 0, 128, 128));
        leaves(s(b(255, 255, 255, 127), 118, 147), b(254, 255, 255, 255, 0));
        leaves(s(b(255, 255, 255, 255), b(255, 255, 255, 127), 148), b(254, 255, 255, 255, 128));
        no(b(255, 255, 255, 127), 139, 140);
        no(b(255, 255, 255, 127), 118, 147, 146);
        yes(b(255, 255, 255, 127), 139);
    }

    private static void shortPushes() {
        leaves(s(0), b());
        for (int size : new int[] {1, 2, 74, 75}) {
            byte[] element = Kit.repeated(0x61, size);
            leaves(Coin.all(bare(Kit.joined(b(size), element)), s(130)), element, b(size));
        }
    }

    /** Each byte as a code. */
    private static Object[] bare(byte[] script) {
        Object[] out = new Object[script.length];
        for (int i = 0; i < out.length; i++) {
            out[i] = script[i] & 255;
        }
        return out;
    }

    private static void longPushes() {
        for (int size : new int[] {0, 1, 75, 76, 119, 120}) {
            byte[] element = Kit.repeated(0x62, size);
            for (byte[] head : new byte[][] {b(76, size), b(77, size, 0)}) {
                Object[] push = bare(Kit.joined(head, element));
                yes(Coin.all(push, s(130, number(size), 136, 81)));
                if (size <= 75) {
                    leaves(push, element);
                }
            }
        }
    }

    private static void twoBytes() {
        no(Coin.all(bare(Kit.joined(b(77, 0, 1), Kit.repeated(1, 190)))));
        no(Coin.all(s(81), bare(b(77, 0, 1))));
        yes(Coin.all(bare(b(77, 1, 0, 9)), s(b(9), 136, 81)));
        no(Coin.all(bare(b(77, 0, 128)), s(81)));
    }

    private static void smallNumbers() {
        leaves(s(79), b(129));
        for (int i = 1; i <= 16; i++) {
            leaves(s(80 + i), b(i));
        }
        no(80);
        yes(81, 97);
        no(97);
    }

    private static void parts() {
        leaves(s(81, 99, 82, 104), b(2));
        leaves(s(0, 99, 82, 104));
        leaves(s(81, 99, 82, 103, 83, 104), b(2));
        leaves(s(0, 99, 82, 103, 83, 104), b(3));
        leaves(s(81, 100, 82, 103, 83, 104), b(3));
        leaves(s(0, 100, 82, 103, 83, 104), b(2));
        leaves(s(0, 100, 82, 104), b(2));
        leaves(s(81, 100, 82, 104));
        leaves(s(84, 81, 99, 104), b(4));
    }

    private static void partsByTruth() {
        leaves(s(b(128), 99, 82, 103, 83, 104), b(3));
        leaves(s(b(0, 0, 0, 0, 0), 99, 82, 103, 83, 104), b(3));
        leaves(s(b(0, 0, 0, 0, 0, 1), 99, 82, 103, 83, 104), b(2));
        leaves(s(b(0, 128), 100, 82, 103, 83, 104), b(2));
        leaves(s(b(128, 0), 100, 82, 103, 83, 104), b(3));
    }

    private static void turns() {
        leaves(s(81, 99, 82, 103, 83, 103, 84, 104), b(2), b(4));
        leaves(s(0, 99, 82, 103, 83, 103, 84, 104), b(3));
        leaves(s(81, 99, 82, 103, 83, 103, 84, 103, 85, 104), b(2), b(4));
        leaves(s(0, 99, 103, 103, 82, 104));
        leaves(s(81, 99, 103, 104));
    }

    private static void nested() {
        leaves(s(81, 81, 99, 99, 82, 103, 83, 104, 84, 103, 85, 104), b(2), b(4));
        leaves(s(0, 81, 99, 99, 82, 103, 83, 104, 84, 103, 85, 104), b(3), b(4));
        leaves(s(81, 0, 99, 99, 82, 103, 83, 104, 84, 103, 85, 104), b(1), b(5));
        leaves(s(0, 99, 99, 82, 103, 83, 104, 103, 84, 104), b(4));
        leaves(s(0, 99, 100, 82, 103, 83, 103, 84, 104, 103, 85, 104), b(5));
        Object[] deep = Coin.all(s(81), times(50, 118), times(50, 99));
        no(deep);
        yes(Coin.all(s(81), times(33, 118), times(33, 99), times(33, 104)));
        yes(Coin.all(s(81, 0), times(50, 99), times(50, 104)));
        no(Coin.all(s(81, 0), times(50, 99), times(49, 104)));
        no(Coin.all(s(81, 0), times(49, 99), times(50, 104)));
    }

    private static void pairsNotDone() {
        leaves(s(0, 99, 99, 104, 104));
        leaves(s(0, 99, 100, 104, 104));
        leaves(s(0, 99, 99, 103, 104, 103, 82, 104), b(2));
        leaves(s(0, 99, 117, 121, 105, 107, 108, 174, 106, 255, 103, 82, 104), b(2));
        no(0, 99, 99, 104, 81);
    }

    private static void pushesNotDone() {
        leaves(s(0, 99, b(103, 83, 104), 103, 82, 104), b(2));
        leaves(s(0, 99, b(104), 82, 104));
        leaves(Coin.all(s(0, 99), bare(b(76, 2, 104, 99)), s(104)));
        leaves(Coin.all(s(0, 99), bare(b(77, 1, 0, 104)), s(104)));
        yes(Coin.all(s(81, 0, 99), times(70, 81), s(104)));
        yes(Coin.all(s(81, 0, 99), s((Object) Kit.repeated(104, 120)), s(104)));
    }

    private static void must() {
        leaves(s(82, 81, 105), b(2));
        leaves(s(82, b(0, 1), 105), b(2));
        no(81, 0, 105);
        no(81, b(128), 105);
        no(81, 106);
        no(81, 106, 81);
        yes(81, 0, 99, 106, 104);
    }

    private static void aside() {
        leaves(s(82, 83, 107, 84, 108), b(2), b(4), b(3));
        leaves(s(82, 83, 107, 107, 108, 108), b(2), b(3));
        leaves(s(82, 107));
        no(81, 108);
        no(107, 81);
        no(81, 81, 107, 108, 108);
        leaves(s(0, 107, 108), b());
        byte[] wide = Kit.repeated(3, 60);
        leaves(s(wide, 107, 108), wide);
    }

    private static void moves() {
        leaves(s(81, 82, 109));
        leaves(s(83, 81, 82, 109), b(3));
        leaves(s(81, 82, 110), b(1), b(2), b(1), b(2));
        leaves(s(83, 81, 82, 110), b(3), b(1), b(2), b(1), b(2));
        leaves(s(81, 82, 83, 111), b(1), b(2), b(3), b(1), b(2), b(3));
        leaves(s(84, 81, 82, 83, 111), b(4), b(1), b(2), b(3), b(1), b(2), b(3));
        leaves(s(81, 82, 83, 84, 112), b(1), b(2), b(3), b(4), b(1), b(2));
        leaves(s(85, 81, 82, 83, 84, 112), b(5), b(1), b(2), b(3), b(4), b(1), b(2));
        leaves(s(81, 82, 83, 84, 85, 86, 113), b(3), b(4), b(5), b(6), b(1), b(2));
        leaves(s(87, 81, 82, 83, 84, 85, 86, 113), b(7), b(3), b(4), b(5), b(6), b(1), b(2));
        leaves(s(81, 82, 83, 84, 114), b(3), b(4), b(1), b(2));
        leaves(s(85, 81, 82, 83, 84, 114), b(5), b(3), b(4), b(1), b(2));
    }

    private static void twiceIfTrue() {
        leaves(s(81, 115), b(1), b(1));
        leaves(s(0, 115), b());
        leaves(s(b(0), 115), b(0));
        leaves(s(b(128), 115), b(128));
        leaves(s(b(0, 128), 115), b(0, 128));
        leaves(s(b(128, 0), 115), b(128, 0), b(128, 0));
        leaves(s(b(0, 0, 0, 0, 7), 115), b(0, 0, 0, 0, 7), b(0, 0, 0, 0, 7));
    }

    private static void depth() {
        leaves(s(116), b());
        leaves(s(0, 116), b(), b(1));
        leaves(s(116, 116, 116), b(), b(1), b(2));
        leaves(s(82, 83, 107, 116), b(2), b(1));
        yes(Coin.all(times(58, 81), s(116, b(58), 136)));
        yes(Coin.all(times(59, 81), s(116)));
        no(Coin.all(times(60, 81), s(116)));
    }

    private static void moreMoves() {
        leaves(s(81, 117));
        leaves(s(81, 82, 117), b(1));
        leaves(s(82, 118), b(2), b(2));
        leaves(s(83, 82, 118), b(3), b(2), b(2));
        leaves(s(81, 82, 119), b(2));
        leaves(s(83, 81, 82, 119), b(3), b(2));
        leaves(s(81, 82, 120), b(1), b(2), b(1));
        leaves(s(83, 81, 82, 120), b(3), b(1), b(2), b(1));
    }

    private static void picks() {
        leaves(s(82, 0, 121), b(2), b(2));
        leaves(s(82, 0, 122), b(2));
        leaves(s(82, 83, 84, 82, 121), b(2), b(3), b(4), b(2));
        leaves(s(82, 83, 84, 82, 122), b(3), b(4), b(2));
        leaves(s(82, 83, 84, 81, 121), b(2), b(3), b(4), b(3));
        leaves(s(82, 83, 84, 81, 122), b(2), b(4), b(3));
        leaves(s(82, b(128), 121), b(2), b(2));
        leaves(s(82, 83, b(1, 0, 0, 0), 121), b(2), b(3), b(2));
        yes(Coin.all(s(82), times(57, 81), s(b(57), 121, b(2), 136)));
        yes(Coin.all(s(82), times(57, 81), s(b(57), 122, b(2), 136)));
    }

    private static void lastMoves() {
        leaves(s(81, 82, 83, 123), b(2), b(3), b(1));
        leaves(s(84, 81, 82, 83, 123), b(4), b(2), b(3), b(1));
        leaves(s(81, 82, 124), b(2), b(1));
        leaves(s(83, 81, 82, 124), b(3), b(2), b(1));
        leaves(s(81, 82, 125), b(2), b(1), b(2));
        leaves(s(83, 81, 82, 125), b(3), b(2), b(1), b(2));
    }

    private static void sizes() {
        leaves(s(0, 130), b(), b());
        leaves(s(b(0), 130), b(0), b(1));
        leaves(s(Kit.repeated(1, 64), 130), Kit.repeated(1, 64), b(64));
        yes(Kit.repeated(1, 120), 130, b(120), 136);
    }

    private static void sameBytes() {
        leaves(s(0, 0, 135), b(1));
        leaves(s(b(1, 2), b(1, 2), 135), b(1));
        leaves(s(b(1, 2), b(1, 3), 135), b());
        leaves(s(b(1, 2), b(2, 2), 135), b());
        leaves(s(b(1, 2), b(1, 2, 0), 135), b());
        leaves(s(b(0), 0, 135), b());
        leaves(s(b(128), 0, 135), b());
        leaves(s(b(1, 2), b(1, 2), 136));
        no(81, b(1, 2), b(1, 3), 136);
        no(81, b(0), 0, 136);
        yes(Kit.repeated(9, 90), 118, 135);
        byte[] last = Kit.repeated(9, 90);
        last[89] = 8;
        no(81, Kit.repeated(9, 90), last, 136);
    }

    private static void ofOne() {
        leaves(s(79, 139), b());
        leaves(s(0, 139), b(1));
        leaves(s(0, 140), b(129));
        leaves(s(81, 140), b());
        leaves(s(b(255, 255, 255, 255), 139), b(254, 255, 255, 255));
        leaves(s(0, 143), b());
        leaves(s(b(128), 143), b());
        leaves(s(81, 143), b(129));
        leaves(s(79, 143), b(1));
        leaves(s(b(255, 255, 255, 127), 143), b(255, 255, 255, 255));
        leaves(s(0, 144), b());
        leaves(s(79, 144), b(1));
        leaves(s(81, 144), b(1));
        leaves(s(b(255, 255, 255, 255), 144), b(255, 255, 255, 127));
        leaves(s(0, 145), b(1));
        leaves(s(79, 145), b());
        leaves(s(b(0, 1), 145), b());
        leaves(s(0, 146), b());
        leaves(s(b(0, 128), 146), b());
        leaves(s(79, 146), b(1));
        leaves(s(85, 146), b(1));
    }

    private static void sums() {
        leaves(s(79, 81, 147), b());
        leaves(s(0, 0, 147), b());
        leaves(s(b(127), 81, 147), b(128, 0));
        leaves(s(b(255), 79, 147), b(128, 128));
        leaves(s(81, 82, 148), b(129));
        leaves(s(82, 81, 148), b(1));
        leaves(s(82, 82, 148), b());
        leaves(s(b(255, 255, 255, 127), b(255, 255, 255, 127), 148), b());
        leaves(s(b(255, 255, 255, 127), b(255, 255, 255, 255), 148), b(254, 255, 255, 255, 0));
        leaves(s(b(255, 255, 255, 255), b(255, 255, 255, 255), 147), b(254, 255, 255, 255, 128));
    }

    private static byte[] whether(boolean so) {
        return so ? b(1) : b();
    }

    private static void ofTwo() {
        byte[][] elements = {b(), b(128), b(0, 0), b(1), b(129), b(1, 0)};
        int[] values = {0, 0, 0, 1, -1, 1};
        for (int i = 0; i < 6; i++) {
            for (int j = 0; j < 6; j++) {
                int x = values[i];
                int y = values[j];
                byte[] one = elements[i];
                byte[] two = elements[j];
                leaves(s(one, two, 154), whether(x != 0 && y != 0));
                leaves(s(one, two, 155), whether(x != 0 || y != 0));
                leaves(s(one, two, 156), whether(x == y));
                leaves(s(one, two, 158), whether(x != y));
                Edge.due("157", Coin.holds(Kit.script(81, one, two, 157)), x == y);
            }
        }
        leaves(s(82, 82, 157));
    }

    private static void order() {
        long[][] pairs = {{5, 4}, {5, 5}, {5, 6}, {0, 0}, {-1, 0}, {0, -1}, {-1, -1}, {-2, -1}, {-1, -2}, {-1, 1}, {1, -1},
            {2147483647L, 2147483647L}, {-2147483647L, 2147483647L}, {2147483647L, -2147483647L}};
        for (long[] pair : pairs) {
            long x = pair[0];
            long y = pair[1];
            byte[] one = number(x);
            byte[] two = number(y);
            leaves(s(one, two, 159), whether(x < y));
            leaves(s(one, two, 160), whether(x > y));
            leaves(s(one, two, 161), whether(x <= y));
            leaves(s(one, two, 162), whether(x >= y));
            leaves(s(one, two, 163), x < y ? one : two);
            leaves(s(one, two, 164), x > y ? one : two);
        }
        leaves(s(b(5, 0), b(6, 0), 163), b(5));
        leaves(s(b(5, 0), b(6, 0), 164), b(6));
        leaves(s(b(128), 0, 163), b());
    }

    private static void within() {
        for (int x = -3; x <= 3; x++) {
            leaves(s(number(x), number(-2), number(2), 165), whether(x >= -2 && x < 2));
            leaves(s(number(x), number(1), number(1), 165), b());
            leaves(s(number(x), number(2), number(-2), 165), b());
        }
    }

    private static void digests() {
        leaves(s(0, 166), Model.unhex("9c1185a5c5e9fc54612808977ee8f548b2258d31"));
        leaves(s("abc".getBytes(), 166), Model.unhex("8eb208f7e05d987a9b044a8e98c6b087f15a0bfc"));
        leaves(s("abcdbcdecdefdefgefghfghighijhijkijkljklmklmnlmnomnopnopq".getBytes(), 166),
                Model.unhex("12a053384a9c0c88e405a06c27dcf49ada62eb2b"));
        leaves(s("1234567890".repeat(8).getBytes(), 166), Model.unhex("9b752e45573d4b39f4dbd3323cab82bf63326bfb"));
        for (int size : new int[] {0, 1, 55, 56, 63, 64, 65, 119, 120}) {
            byte[] element = Kit.repeated(0xa5, size);
            leaves(s(element, 166), Crypto.ripe(element));
            leaves(s(element, 168), Crypto.digest(element));
            leaves(s(element, 169), Crypto.ripe(Crypto.digest(element)));
            leaves(s(element, 170), Crypto.digest(Crypto.digest(element)));
        }
    }

    private static void cutPushes() {
        no(Coin.all(s(81), bare(b(1))));
        no(Coin.all(s(81), bare(b(5, 1, 1, 1, 1))));
        yes(Coin.all(s(81), bare(b(5, 1, 1, 1, 1, 1))));
        no(Coin.all(s(81), bare(Kit.joined(b(75), Kit.repeated(1, 74)))));
        yes(Coin.all(s(81), bare(Kit.joined(b(75), Kit.repeated(1, 75)))));
        no(Coin.all(s(81), bare(b(76))));
        no(Coin.all(s(81), bare(b(76, 1))));
        no(Coin.all(s(81), bare(b(76, 3, 1, 1))));
        yes(Coin.all(s(81), bare(b(76, 3, 1, 1, 1))));
        no(Coin.all(s(81), bare(b(77))));
        no(Coin.all(s(81), bare(b(77, 0))));
        no(Coin.all(s(81), bare(b(77, 2, 0, 1))));
        yes(Coin.all(s(81), bare(b(77, 2, 0, 1, 1))));
        no(Coin.all(s(81), bare(b(76, 255))));
        no(Coin.all(s(81), bare(b(77, 255, 255))));
    }

    private static void widestPush() {
        for (int size : new int[] {119, 120, 121, 127, 128, 190}) {
            for (byte[] head : new byte[][] {b(76, size), b(77, size, 0)}) {
                Edge.due(head.length + " " + size, Coin.holds(Kit.joined(b(81), head, Kit.repeated(1, size))), size <= 120);
            }
        }
    }

    private static void cutWhereNotDone() {
        for (int size : new int[] {120, 121}) {
            Edge.due("76 of " + size, Coin.holds(Kit.joined(b(81, 0, 99, 76, size), Kit.repeated(104, size), b(104))),
                    size == 120);
            Edge.due("77 of " + size, Coin.holds(Kit.joined(b(81, 0, 99, 77, size, 0), Kit.repeated(104, size), b(104))),
                    size == 120);
        }
        no(Coin.all(s(81, 0, 99), bare(b(3, 104, 104))));
        no(Coin.all(s(81, 0, 99), bare(b(2, 104))));
        no(Coin.all(s(81, 0, 99, 104, 0, 99), bare(b(76))));
        no(Coin.all(s(81, 0, 99, 104, 0, 99), bare(b(77, 104))));
        yes(Coin.all(s(81, 0, 99), bare(b(1, 104, 104))));
    }

    private static void mostOperations() {
        yes(Coin.all(s(81), times(100, 97)));
        no(Coin.all(s(81), times(101, 97)));
        yes(Coin.all(s(81), times(99, 97), s(118)));
        no(Coin.all(s(81), times(100, 97), s(118)));
        no(Coin.all(s(81), times(199, 97)));
    }

    private static void mostInEach() {
        byte[] hundred = Kit.joined(b(81), Kit.repeated(97, 100));
        two("100 in both", hundred, Kit.repeated(97, 100), true);
        two("101 in the second", b(81), Kit.repeated(97, 101), false);
        two("101 in the first", Kit.joined(b(81), Kit.repeated(97, 101)), b(), false);
    }

    private static void codesThatCount() {
        Object[] hundred = times(100, 97);
        yes(Coin.all(times(60, 96), hundred));
        yes(Coin.all(s(81), hundred, times(59, 79)));
        yes(Coin.all(s(81), hundred, s(0), s(b(5)), bare(b(76, 1, 5)), bare(b(77, 1, 0, 5))));
        no(Coin.all(s(81), hundred, s(97)));
        no(Coin.all(s(81, 81), hundred, s(117)));
        no(Coin.all(s(81), times(99, 97), s(81, 99, 104)));
        yes(Coin.all(s(81), times(98, 97), s(81, 99, 104)));
    }

    private static void mostNotDone() {
        yes(Coin.all(s(81, 0, 99), times(98, 97), s(104)));
        no(Coin.all(s(81, 0, 99), times(99, 97), s(104)));
        yes(Coin.all(s(81, 0, 99), times(98, 255), s(104)));
        no(Coin.all(s(81, 0, 99), times(99, 255), s(104)));
        yes(Coin.all(s(81, 0, 99), times(98, 97), times(60, 96), s(104)));
        yes(Coin.all(s(81, 0, 99), times(49, 99), times(49, 104), s(104)));
        no(Coin.all(s(81, 0, 99, 97), times(49, 99), times(49, 104), s(104)));
    }

    private static void keysCount() {
        for (int keys : new int[] {0, 1, 8}) {
            Object[] some = Coin.all(s(0, 0), times(keys, 81), s(number(keys)));
            for (int code : new int[] {174, 175}) {
                Object[] end = Coin.all(some, s(code, 81));
                yes(Coin.all(times(99 - keys, 97), end));
                no(Coin.all(times(100 - keys, 97), end));
            }
        }
        // not done they have no keys
        yes(Coin.all(times(97, 97), s(81, 88, 0, 99, 174, 104)));
        no(Coin.all(times(98, 97), s(81, 88, 0, 99, 174, 104)));
    }

    private static boolean isCode(int code) {
        return code <= 77 || code == 79 || code >= 81 && code <= 97 || code == 99 || code == 100 || code >= 103 && code <= 125
                || code == 130 || code == 135 || code == 136 || code == 139 || code == 140 || code >= 143 && code <= 148
                || code >= 154 && code <= 166 || code >= 168 && code <= 170 || code >= 172 && code <= 175;
    }

    private static void otherCodes() {
        for (int code = 0; code < 256; code++) {
            if (!isCode(code)) {
                no(Coin.all(times(9, 81), s(code, 81)));
                yes(81, 0, 99, code, 104);
                yes(81, 99, 81, 103, code, 104);
            } else if (code > 77 && code != 106) {
                // 1 for all that take something; the signature of 1 fits no key 1, so 173 and 175 are for others to try
                Object[] end = code == 99 || code == 100 ? s(104, 81) : code == 108 ? s() : s(81);
                Object[] begin = code == 103 || code == 104 ? s(81, 99) : code == 108 ? s(81, 107) : s();
                Object[] close = code == 103 ? s(104) : s();
                if (code != 173 && code != 175 && code != 165) {
                    yes(Coin.all(times(9, 81), begin, s(code), end, close, code == 103 ? s() : s(81)));
                }
            }
        }
    }

    private static void tooFew() {
        int[][] needs = {{99, 1}, {100, 1}, {105, 1}, {107, 1}, {109, 2}, {110, 2}, {111, 3}, {112, 4}, {113, 6}, {114, 4},
            {115, 1}, {117, 1}, {118, 1}, {119, 2}, {120, 2}, {121, 2}, {122, 2}, {123, 3}, {124, 2}, {125, 2}, {130, 1},
            {135, 2}, {136, 2}, {139, 1}, {140, 1}, {143, 1}, {144, 1}, {145, 1}, {146, 1}, {147, 2}, {148, 2}, {154, 2},
            {155, 2}, {156, 2}, {157, 2}, {158, 2}, {159, 2}, {160, 2}, {161, 2}, {162, 2}, {163, 2}, {164, 2}, {165, 3},
            {166, 1}, {168, 1}, {169, 1}, {170, 1}, {172, 2}, {174, 3}, {175, 3}};
        for (int[] need : needs) {
            Object one = need[0] == 121 || need[0] == 122 || need[0] >= 174 ? 0 : 81;
            Object[] end = need[0] == 99 || need[0] == 100 ? s(need[0], 104, 81) : s(need[0], 81);
            yes(Coin.all(times(need[1], one), end));
            no(Coin.all(times(need[1] - 1, one), end));
        }
        // 174 with keys and signatures: x m k k n
        yes(0, 0, 81, 81, 82, 174);
        no(0, 81, 81, 82, 174);
        no(81, 82, 174);
        yes(0, 0, 0, 82, 81, 81, 82, 174, 145);
        no(0, 0, 82, 81, 81, 82, 174, 145);
    }

    private static void tooFewHere() {
        no(81, 107, 118, 81);
        no(81, 81, 107, 147, 81);
        two("nor what the first script left aside", b(81, 81, 107), b(108), false);
        no(81, 82, 107, 109, 81);
    }

    private static void tooManyBytes() {
        byte[] wide = b(1, 0, 0, 0, 0);
        byte[] most = b(1, 0, 0, 0);
        for (int code : new int[] {139, 140, 143, 144, 145, 146}) {
            yes(most, code, 81);
            no(wide, code, 81);
        }
        for (int code : new int[] {147, 148, 154, 155, 156, 157, 158, 159, 160, 161, 162, 163, 164}) {
            yes(most, most, code, 81);
            no(wide, most, code, 81);
            no(most, wide, code, 81);
        }
        yes(most, most, most, 165, 81);
        for (int i = 0; i < 3; i++) {
            Object[] script = s(most, most, most, 165, 81);
            script[i] = wide;
            no(script);
        }
        yes(81, 81, b(0, 0, 0, 0), 121);
        no(81, 81, b(0, 0, 0, 0, 0), 121);
        yes(81, 81, b(0, 0, 0, 0), 122);
        no(81, 81, b(0, 0, 0, 0, 0), 122);
        yes(0, b(0, 0, 0, 0), 81, most, 174);
        no(0, b(0, 0, 0, 0), 81, wide, 174);
        no(0, b(0, 0, 0, 0, 0), 81, most, 174);
        // what is no operand may be as wide as an element
        yes(Kit.repeated(1, 100), 118, 135);
        yes(81, Kit.repeated(1, 100), 105);
    }

    private static void noSuchElement() {
        for (int code : new int[] {121, 122}) {
            yes(81, 82, 81, code);
            no(81, 82, 82, code);
            no(81, 82, 79, code);
            yes(81, 0, code);
            no(81, 81, code);
            no(0, code);
            no(81, 82, b(0, 1), code);
            no(81, 82, b(255, 255, 255, 127), code);
            no(81, 82, b(255, 255, 255, 255), code);
        }
    }

    private static void noSuchNumber() {
        for (int code : new int[] {174, 175}) {
            yes(Coin.all(s(0, 0), times(8, 81), s(88, code, 81)));
            no(Coin.all(s(0, 0), times(9, 81), s(89, code, 81)));
            no(Coin.all(times(20, 0), s(79, code, 81)));
            no(Coin.all(times(20, 81), s(b(255, 255, 255, 127), code, 81)));
            yes(0, 0, 0, code, 81);
            no(81, 81, 81, 81, 81, 79, 81, 81, code, 81);
            no(Coin.all(times(9, 0), s(82, 81, 81, code, 81)));
            no(Coin.all(times(9, 0), s(81, 0, code, 81)));
            no(Coin.all(times(9, 0), s(b(255, 255, 255, 127), 81, 81, code, 81)));
        }
        yes(0, 0, 81, 81, 174, 145, 81);
        yes(0, 0, 0, 82, 81, 81, 82, 174, 81);
    }

    private static void untrue() {
        no(81, 0, 105);
        no(81, b(0, 128), 105);
        yes(81, 81, 105);
        no(81, 82, 83, 136);
        no(81, 82, 83, 157);
        no(81, 0, 0, 173);
        no(81, 0, 0, 81, 81, 81, 175);
        no(81, 106);
    }

    private static void alone() {
        no(103, 81);
        no(104, 81);
        no(81, 103);
        no(81, 104);
        no(81, 81, 99, 104, 104);
        no(81, 81, 99, 104, 103);
        no(81, 0, 99, 104, 103);
        yes(81, 81, 99, 104);
        two("in the second script", b(81, 81, 99), b(104), false);
    }

    private static void moreThanSixty() {
        Object[] full = times(60, 81);
        for (Object[] more : new Object[][] {{0}, {79}, {81}, {b(1)}, {118}, {110}, {111}, {112}, {115}, {116}, {120}, {125},
            {130}, {0, 117}}) {
            no(Coin.all(full, more, s(117, 117, 117, 117)));
        }
        yes(Coin.all(full, s(97)));
        yes(Coin.all(full, s(117, 118)));
        no(Coin.all(times(59, 81), s(110)));
        yes(Coin.all(times(58, 81), s(110)));
        no(Coin.all(times(58, 81), s(111)));
        yes(Coin.all(times(57, 81), s(111)));
        no(Coin.all(full, s(107, 118, 118, 108)));
    }

    private static void open() {
        no(81, 81, 99);
        no(81, 0, 99);
        no(81, 81, 100);
        no(81, 0, 99, 103);
        no(81, 81, 99, 103, 103);
        no(81, 81, 81, 99, 99, 104);
        yes(81, 81, 81, 99, 99, 104, 104);
        two("in the first script", b(81, 81, 99), b(81), false);
        two("in the second", b(81), b(81, 99), false);
    }
}
