import java.util.List;

/** Boundary cases of what is told for thought and of sums of numbers alone: promises 20 to 41. */
public final class EdgeThoughtTests {
    private static final Edges E = new Edges();
    private static final int NONE = Edges.NONE;
    private static final int MIN = Edges.MIN;
    private static final int MAX = Edges.MAX;

    public static void main(String[] args) {
        thread20();
        hangs21();
        square22And23();
        mark24();
        marks25();
        marksBeyond25();
        chord26();
        chords27();
        stop28();
        round29();
        ones30();
        digit31();
        order32();
        sign33();
        stack34();
        stackStuck34();
        strung35();
        run36();
        runs37();
        hole38();
        leaks39();
        colours40();
        game41();
        gameRefused41();
        E.close("EdgeThoughtTests", 20, 21, 22, 23, 24, 25, 26, 27, 28, 29, 30, 31, 32, 33, 34, 35, 36, 37, 38, 39, 40, 41);
    }

    private static void thread20() {
        E.says(20, "up to 12 told threads between knots 0 .. 5 (told twice two)", m -> {
            for (int i = 1; i <= 6; i++) {
                E.eq("thread", m.thread(0, 5), 2 * i - 1);
                E.eq("the other way", m.thread(5, 0), 2 * i);
            }
            E.none("the 13th", m.thread(0, 1));
            E.none("still full", m.thread(5, 0));
            E.eq("none is then", m.thread(NONE, 0), 0);
            E.eq("room again", m.thread(0, 1), 1);
        });
        E.says(20, "NONE if one can't be (unlike), or there are twelve", m -> {
            E.eq("thread", m.thread(1, 2), 1);
            for (int knot = 0; knot <= 5; knot++) {
                E.none("alike", m.thread(knot, knot));
            }
            E.none("knot 6", m.thread(6, 0));
            E.none("knot 6", m.thread(0, 6));
            E.none("knot -1", m.thread(0, -1));
            E.none("knot -2", m.thread(-2, 0));
            E.none("MIN", m.thread(MIN, 0));
            E.none("MAX", m.thread(0, MAX));
            E.eq("one is there still", m.thread(2, 3), 2);
        });
        E.says(20, "A thread for HANGS (a NONE: none is then): how many", m -> {
            E.eq("none of none", m.thread(NONE, 0), 0);
            hang(m, "01 12 23 34 45");
            E.eq("hangs", m.hangs(), 1);
            E.eq("none, whatever b", m.thread(NONE, 77), 0);
            E.eq("hangs no more", m.hangs(), 0);
            m.thread(0, 1);
            E.eq("none, whatever b", m.thread(NONE, NONE), 0);
        });
    }

    private static void hang(DewMarket m, String threads) {
        m.thread(NONE, 0);
        for (String each : threads.split(" ")) {
            m.thread(each.charAt(0) - '0', each.charAt(1) - '0');
        }
    }

    private static void hangs21() {
        E.says(21, "in how many ways just five of them (told apart) hang all six together", m -> {
            E.eq("none told", m.hangs(), 0);
            hang(m, "01 12 23 34");
            E.eq("four", m.hangs(), 0);
            hang(m, "01 12 23 34 45");
            E.eq("a row", m.hangs(), 1);
            hang(m, "01 12 20 34 45 53");
            E.eq("two rings apart", m.hangs(), 0);
            hang(m, "01 12 23 34 40 01 12 23 34 40 01 12");
            E.eq("one knot hangs on nothing", m.hangs(), 0);
            hang(m, "01 01 01 01 01 01 01 01 12 23 34 45");
            E.eq("told apart", m.hangs(), 8);
            hang(m, "01 10 12 21 23 32 34 43 45 54");
            E.eq("each twice", m.hangs(), 32);
            hang(m, "01 12 23 34 45 50");
            E.eq("a ring", m.hangs(), 6);
            hang(m, "01 12 23 34 45 50 01 12 23 34 45 50");
            E.eq("a ring, each twice: one left out, else one of two", m.hangs(), 6 * 32);
            hang(m, "05 15 25 35 45");
            E.eq("a star", m.hangs(), 1);
            hang(m, "01 02 03 12 13 23 04 45");
            E.eq("four knots all joined", m.hangs(), 16);
        });
    }

    private static void square(DewMarket m, int... numbers) {
        for (int i = 0; i < numbers.length; i++) {
            m.cell(i, numbers[i]);
        }
    }

    private static void square22And23() {
        E.says(22, "A number of the square for DETERMINANT (place 0 .. 8, row by row)", m -> {
            // in each place of the unit square a 2 shows which row and column it is in
            int[] due = {2, 1, 1, 1, 2, 1, 1, 1, 2};
            for (int place = 0; place <= 8; place++) {
                square(m, 1, 0, 0, 0, 1, 0, 0, 0, 1);
                E.yes("cell " + place, m.cell(place, 2));
                E.eq("cell " + place, m.determinant(), due[place]);
            }
            square(m, 0, 1, 0, 0, 0, 1, 1, 0, 0);
            m.cell(1, 3);
            m.cell(5, 5);
            m.cell(6, 7);
            E.eq("row by row", m.determinant(), 105);
        });
        E.says(22, "true; false if one can't be", m -> {
            E.no("place -1", m.cell(-1, 1));
            E.no("place 9", m.cell(9, 1));
            E.no("place MIN", m.cell(MIN, 1));
            E.no("place MAX", m.cell(MAX, 1));
            square(m, 1, 0, 0, 0, 1, 0, 0, 0, 1);
            for (int place = 0; place <= 8; place++) {
                E.no("-10", m.cell(place, -10));
                E.no("10", m.cell(place, 10));
                E.no("MIN", m.cell(place, MIN));
            }
            E.eq("nothing changed", m.determinant(), 1);
            E.yes("the first place", m.cell(0, -9));
            E.yes("the last place", m.cell(8, 9));
            E.eq("they count", m.determinant(), -81);
        });
        E.says(23, "of a told square of 3 by 3 numbers (-9 .. 9; 0 at first) the DETERMINANT", m -> {
            E.eq("at first", m.determinant(), 0);
            m.cell(0, 9);
            m.cell(4, 9);
            E.eq("the rest is 0", m.determinant(), 0);
            m.cell(8, 9);
            E.eq("the diagonal", m.determinant(), 729);
            square(m, 9, 9, 9, 9, 9, 9, 9, 9, 9);
            E.eq("all alike", m.determinant(), 0);
            square(m, 9, 9, -9, -9, 9, 9, 9, -9, 9);
            E.eq("the greatest", m.determinant(), 2916);
            square(m, -9, 9, 9, 9, -9, 9, 9, 9, -9);
            E.eq("all others below 0", m.determinant(), 4 * 729);
            square(m, 9, 9, 9, 9, -9, 9, 9, 9, -9);
            E.eq("the greatest", m.determinant(), 2916);
            square(m, -9, -9, 9, -9, 9, 9, 9, -9, 9);
            E.eq("the least", m.determinant(), -2916);
            // row by row: one 1 in each row and column
            square(m, 0, 1, 0, 0, 0, 1, 1, 0, 0);
            E.eq("row by row", m.determinant(), 1);
            square(m, 0, 1, 0, 1, 0, 0, 0, 0, 1);
            E.eq("two rows changed", m.determinant(), -1);
            square(m, 0, 0, 2, 3, 0, 0, 0, 5, 0);
            E.eq("row by row", m.determinant(), 30);
            square(m, 0, 0, 2, 0, 3, 0, 5, 0, 0);
            E.eq("the other diagonal", m.determinant(), -30);
            square(m, 2, 0, 0, 0, 0, 3, 0, 5, 0);
            E.eq("the last two changed", m.determinant(), -30);
        });
    }

    private static void mark24() {
        E.says(24, "up to 8 told (x 0 .. 99, each once; y -99 .. 99)", m -> {
            E.none("x 100", m.mark(100, 0));
            E.none("x -2", m.mark(-2, 0));
            E.none("x MIN", m.mark(MIN, 0));
            E.none("x MAX", m.mark(MAX, 0));
            E.none("y 100", m.mark(0, 100));
            E.none("y -100", m.mark(0, -100));
            E.none("y MIN", m.mark(0, MIN));
            E.eq("x 0, y 99", m.mark(0, 99), 1);
            E.eq("x 99, y -99", m.mark(99, -99), 2);
            E.eq("y 99", m.marks(0, 0), 99);
            E.eq("y -99", m.marks(99, 0), -99);
        });
        E.says(24, "NONE if one can't be (that x told already), or there are eight", m -> {
            E.eq("mark", m.mark(5, 5), 1);
            E.none("that x", m.mark(5, 5));
            E.none("that x, another y", m.mark(5, 6));
            E.eq("y stays", m.marks(5, 0), 5);
            for (int i = 2; i <= 8; i++) {
                E.eq("mark", m.mark(5 * i, i), i);
            }
            E.none("the ninth", m.mark(99, 0));
            E.none("told already and full", m.mark(40, 0));
            E.eq("it is not there", m.marks(99, 1), 0);
            E.eq("the eighth is", m.marks(40, 0), 8);
        });
        E.says(24, "A mark for MARKS (x NONE: none is then): how many", m -> {
            E.eq("none of none", m.mark(NONE, 0), 0);
            m.mark(5, 5);
            E.eq("whatever y", m.mark(NONE, MAX), 0);
            E.eq("none there", m.marks(5, 1), 0);
            E.eq("that x is free again", m.mark(5, 6), 1);
        });
    }

    private static void at(DewMarket m, int x, int above, int below) {
        E.eq("above at " + x, m.marks(x, 0), above);
        E.eq("below at " + x, m.marks(x, 1), below);
    }

    private static void marks25() {
        E.says(25, "what lies there on the straight way between the marks next to it (on a mark its y) as a fraction in lowest terms", m -> {
            m.mark(50, 10);
            m.mark(10, 0);
            m.mark(20, 5);
            m.mark(99, -99);
            m.mark(0, 99);
            at(m, 10, 0, 1);
            at(m, 20, 5, 1);
            at(m, 99, -99, 1);
            at(m, 0, 99, 1);
            at(m, 11, 1, 2);
            at(m, 12, 1, 1);
            at(m, 19, 9, 2);
            at(m, 21, 31, 6);
            at(m, 26, 6, 1);
            at(m, 49, 59, 6);
            at(m, 51, 381, 49);
            at(m, 98, -4742, 49);
            at(m, 1, 891, 10);
        });
        E.says(25, "above can be below 0", m -> {
            m.mark(0, -99);
            m.mark(99, 99);
            at(m, 1, -97, 1);
            at(m, 49, -1, 1);
            at(m, 50, 1, 1);
            m.mark(NONE, 0);
            m.mark(3, -4);
            m.mark(6, -9);
            at(m, 4, -17, 3);
            at(m, 5, -22, 3);
            m.mark(NONE, 0);
            m.mark(2, 4);
            m.mark(6, -4);
            at(m, 4, 0, 1);
            at(m, 5, -2, 1);
        });
    }

    private static void marksBeyond25() {
        E.says(25, "beyond all, none told: 0 by 0", m -> {
            at(m, 0, 0, 0);
            at(m, 99, 0, 0);
            m.mark(50, 7);
            at(m, 49, 0, 0);
            at(m, 50, 7, 1);
            at(m, 51, 0, 0);
            m.mark(60, 7);
            at(m, 49, 0, 0);
            at(m, 55, 7, 1);
            at(m, 60, 7, 1);
            at(m, 61, 0, 0);
        });
        E.says(25, "NONE - 99 if one can't be, or another what", m -> {
            m.mark(0, 1);
            m.mark(99, 1);
            for (int what = 0; what <= 1; what++) {
                E.eq("x -1", m.marks(-1, what), -100);
                E.eq("x 100", m.marks(100, what), -100);
                E.eq("x MIN", m.marks(MIN, what), -100);
                E.eq("x MAX", m.marks(MAX, what), -100);
            }
            E.eq("what -1", m.marks(0, -1), -100);
            E.eq("what 2", m.marks(0, 2), -100);
            E.eq("what MAX", m.marks(0, MAX), -100);
            E.eq("x 0", m.marks(0, 0), 1);
            E.eq("x 99", m.marks(99, 0), 1);
        });
    }

    private static void chord26() {
        E.says(26, "twelve places in a ring, up to 6 told chords between two (unlike, no place twice)", m -> {
            E.none("alike", m.chord(3, 3));
            E.none("place 12", m.chord(12, 0));
            E.none("place 12", m.chord(0, 12));
            E.none("place -1", m.chord(0, -1));
            E.none("place -2", m.chord(-2, 0));
            E.none("MIN", m.chord(MIN, 0));
            E.none("MAX", m.chord(0, MAX));
            E.eq("chord", m.chord(0, 11), 1);
            E.none("the first's first", m.chord(0, 5));
            E.none("the first's second", m.chord(11, 5));
            E.none("the other way", m.chord(5, 0));
            E.none("the other way", m.chord(5, 11));
            E.none("the same", m.chord(0, 11));
            for (int i = 1; i <= 5; i++) {
                E.eq("chord", m.chord(i, 11 - i), i + 1);
            }
            E.none("no place is left", m.chord(5, 6));
            E.eq("six", m.chords(1), 6);
        });
        E.says(26, "A chord (a NONE: none is then): how many; NONE if one can't be, or there are six.", m -> {
            E.eq("none of none", m.chord(NONE, 0), 0);
            m.chord(0, 1);
            m.chord(2, 3);
            E.eq("whatever b", m.chord(NONE, MIN), 0);
            E.eq("none", m.chords(1), 0);
            E.eq("its places are free", m.chord(1, 2), 1);
        });
    }

    private static void ring(DewMarket m, int... ends) {
        m.chord(NONE, 0);
        for (int i = 0; i + 1 < ends.length; i += 2) {
            m.chord(ends[i], ends[i + 1]);
        }
    }

    private static void crossing(DewMarket m, int couples, int most) {
        E.eq("couples", m.chords(0), couples);
        E.eq("most", m.chords(1), most);
    }

    private static void chords27() {
        E.says(27, "how many couples of them cross (their ends come by turns); the most of them of which none cross", m -> {
            crossing(m, 0, 0);
            ring(m, 0, 6);
            crossing(m, 0, 1);
            ring(m, 0, 6, 3, 9);
            crossing(m, 1, 1);
            ring(m, 6, 0, 9, 3);
            crossing(m, 1, 1);
            ring(m, 0, 2, 11, 1);
            crossing(m, 1, 1);
            ring(m, 0, 11, 1, 10);
            crossing(m, 0, 2);
            ring(m, 0, 1, 2, 3);
            crossing(m, 0, 2);
            ring(m, 0, 6, 1, 7, 2, 8, 3, 9, 4, 10, 5, 11);
            crossing(m, 15, 1);
            ring(m, 0, 11, 1, 10, 2, 9, 3, 8, 4, 7, 5, 6);
            crossing(m, 0, 6);
            ring(m, 0, 2, 1, 3, 4, 6, 5, 7, 8, 10, 9, 11);
            crossing(m, 3, 3);
            // one that crosses all the others
            ring(m, 0, 6, 1, 11, 2, 10, 3, 9, 4, 8, 5, 7);
            crossing(m, 5, 5);
            // in a row: each crosses the next one alone
            ring(m, 0, 2, 1, 4, 3, 6, 5, 8, 7, 10, 9, 11);
            crossing(m, 5, 3);
        });
        E.says(27, "CHORDS what 0 how many couples, 1 the most. NONE for another what.", m -> {
            ring(m, 0, 6, 3, 9);
            E.none("what -1", m.chords(-1));
            E.none("what 2", m.chords(2));
            E.none("what MIN", m.chords(MIN));
            E.none("what MAX", m.chords(MAX));
        });
    }

    private static void stop28() {
        E.says(28, "up to 7 told places (x, y 0 .. 20)", m -> {
            E.none("x 21", m.stop(21, 0));
            E.none("x -2", m.stop(-2, 0));
            E.none("x MIN", m.stop(MIN, 0));
            E.none("y 21", m.stop(0, 21));
            E.none("y -1", m.stop(0, -1));
            E.none("y MAX", m.stop(0, MAX));
            E.eq("stop", m.stop(0, 20), 1);
            E.eq("stop", m.stop(20, 0), 2);
            E.eq("steps", m.round(0), 80);
        });
        E.says(28, "NONE if one can't be, or there are seven", m -> {
            for (int i = 1; i <= 7; i++) {
                E.eq("stop", m.stop(i, 3), i);
            }
            E.none("the eighth", m.stop(0, 0));
            E.eq("it is not there", m.round(0), 12);
        });
        E.says(28, "A place for ROUND (x NONE: none is then): how many", m -> {
            E.eq("none of none", m.stop(NONE, 0), 0);
            m.stop(1, 1);
            m.stop(2, 2);
            E.eq("whatever y", m.stop(NONE, MIN), 0);
            E.eq("none", m.round(0), 0);
            E.eq("the first again", m.stop(1, 1), 1);
        });
    }

    private static void go(DewMarket m, int... places) {
        m.stop(NONE, 0);
        for (int i = 0; i + 1 < places.length; i += 2) {
            m.stop(places[i], places[i + 1]);
        }
    }

    private static void rounds(DewMarket m, int steps, int order) {
        E.eq("steps", m.round(0), steps);
        E.eq("order", m.round(1), order);
    }

    private static void round29() {
        E.says(29, "of several the least number; fewer than two: 0, 0", m -> {
            rounds(m, 0, 0);
            go(m, 20, 20);
            rounds(m, 0, 0);
            go(m, 3, 3, 3, 3);
            rounds(m, 0, 1);
            go(m, 0, 0, 20, 20);
            rounds(m, 80, 1);
            // there and back over the others is as far as any way
            go(m, 0, 0, 5, 0, 3, 0);
            rounds(m, 10, 12);
            go(m, 7, 7, 7, 7, 7, 7, 7, 7, 7, 7, 7, 7, 7, 7);
            rounds(m, 0, 123456);
        });
        E.says(29, "the fewest steps (up, right, down, left) from the first through all others and back", m -> {
            go(m, 0, 0, 10, 10, 0, 10, 10, 0);
            rounds(m, 40, 213);
            go(m, 0, 0, 20, 20, 0, 20, 20, 0, 10, 0, 20, 10, 0, 10);
            rounds(m, 80, 435126);
            go(m, 10, 10, 0, 0, 20, 20);
            rounds(m, 80, 12);
            // from the midst to a corner, along three sides and back
            go(m, 5, 5, 0, 0, 10, 0, 0, 10, 10, 10);
            rounds(m, 50, 1243);
        });
        E.says(29, "the numbers of the others, from 1 as told, as digits", m -> {
            go(m, 0, 0, 1, 0, 2, 0, 2, 1, 1, 1, 0, 1);
            rounds(m, 6, 12345);
            go(m, 0, 0, 0, 1, 1, 1, 2, 1, 2, 0, 1, 0);
            rounds(m, 6, 12345);
            go(m, 0, 0, 2, 1, 1, 0, 0, 1, 2, 0, 1, 1);
            rounds(m, 6, 24153);
        });
        E.says(29, "ROUND what 0 the fewest steps, 1 in which order. NONE for another what.", m -> {
            go(m, 0, 0, 1, 1);
            E.none("what -1", m.round(-1));
            E.none("what 2", m.round(2));
            E.none("what MIN", m.round(MIN));
            E.none("what MAX", m.round(MAX));
        });
    }

    private static void ones30() {
        E.says(30, "n (0 .. 9999), 0 .. n as bits: how many 1 all together; how many of 0 .. n have k (0 .. 14) of them", m -> {
            int all = 0;
            int[] have = new int[15];
            for (int n = 0; n <= 9999; n++) {
                all += Integer.bitCount(n);
                have[Integer.bitCount(n)]++;
                if (n < 20 || n % 512 < 2 || n > 9990 || n % 512 == 511) {
                    E.eq("all of " + n, m.ones(n, NONE), all);
                    for (int k = 0; k <= 14; k++) {
                        E.eq(k + " of " + n, m.ones(n, k), have[k]);
                    }
                }
            }
            E.eq("0 has none", m.ones(0, 0), 1);
            E.eq("0 has not one", m.ones(0, 1), 0);
            E.eq("none has 14", m.ones(9999, 14), 0);
            E.eq("8191 has 13", m.ones(8191, 13), 1);
            E.eq("8190 has not", m.ones(8190, 13), 0);
        });
        E.says(30, "ONES: all together (k NONE); how many have k. NONE if one can't be.", m -> {
            for (int k : new int[] {NONE, 0, 14}) {
                E.none("n -1", m.ones(-1, k));
                E.none("n 10000", m.ones(10000, k));
                E.none("n MIN", m.ones(MIN, k));
                E.none("n MAX", m.ones(MAX, k));
            }
            E.none("k 15", m.ones(5, 15));
            E.none("k -2", m.ones(5, -2));
            E.none("k MIN", m.ones(5, MIN));
            E.none("k MAX", m.ones(5, MAX));
        });
    }

    private static void digit31() {
        E.says(31, "a told row of up to 8 digits", m -> {
            for (int i = 1; i <= 8; i++) {
                E.eq("digit", m.digit(i == 1 ? 0 : 9), i);
            }
            E.none("the ninth", m.digit(0));
            E.eq("eight", m.order(2), 8);
        });
        E.says(31, "A digit of ORDER (NONE: it is empty then): how many; NONE if one can't be, or there are eight.", m -> {
            E.eq("none of none", m.digit(NONE), 0);
            E.none("10", m.digit(10));
            E.none("-2", m.digit(-2));
            E.none("MIN", m.digit(MIN));
            E.none("MAX", m.digit(MAX));
            E.eq("none came", m.order(2), 1);
            E.eq("0", m.digit(0), 1);
            E.eq("9", m.digit(9), 2);
            E.eq("both", m.order(2), 2);
            E.eq("empty then", m.digit(NONE), 0);
            E.eq("none", m.order(2), 1);
            E.eq("the first", m.digit(3), 1);
        });
    }

    private static void ordered(DewMarket m, String row, int next, int which, int all) {
        m.digit(NONE);
        for (char c : row.toCharArray()) {
            m.digit(c - '0');
        }
        E.eq("the next of " + row, m.order(0), next);
        E.eq("which is " + row, m.order(1), which);
        E.eq("how many of " + row, m.order(2), all);
    }

    private static void order32() {
        E.says(32, "the next greater unlike order of its digits, as a number (a 0 ahead falls away; NONE: there is none)", m -> {
            ordered(m, "0", NONE, 0, 1);
            ordered(m, "00", NONE, 0, 1);
            ordered(m, "01", 10, 0, 2);
            ordered(m, "10", NONE, 1, 2);
            ordered(m, "001", 10, 0, 3);
            ordered(m, "010", 100, 1, 3);
            ordered(m, "0123", 132, 0, 24);
            ordered(m, "0321", 1023, 5, 24);
            ordered(m, "1332", 2133, 2, 12);
            ordered(m, "1322", 2123, 2, 12);
            ordered(m, "98765432", NONE, 40319, 40320);
            ordered(m, "98765423", 98765432, 40318, 40320);
            ordered(m, "99999999", NONE, 0, 1);
            ordered(m, "99999998", NONE, 7, 8);
            ordered(m, "89999999", 98999999, 0, 8);
        });
        E.says(32, "which one of all unlike orders it is (from 0, as numbers with a 0 ahead, too); how many there are", m -> {
            ordered(m, "12345678", 12345687, 0, 40320);
            ordered(m, "00000001", 10, 0, 8);
            ordered(m, "10000000", NONE, 7, 8);
            ordered(m, "1100", NONE, 5, 6);
            ordered(m, "0011", 101, 0, 6);
            ordered(m, "1001", 1010, 3, 6);
            ordered(m, "11223344", 11223434, 0, 2520);
            ordered(m, "44332211", NONE, 2519, 2520);
        });
        E.says(32, "(none told: NONE, 0, 1). NONE, too, for another what.", m -> {
            E.none("the next", m.order(0));
            E.eq("which one", m.order(1), 0);
            E.eq("how many", m.order(2), 1);
            // nothing of other thoughts stays
            stacked(m, 9, 12, NONE, 9, 9, 9, 9, 9, 9, 9, 9, 9, 9, 9, 9);
            E.eq("how many", m.order(2), 1);
            m.stack(0);
            E.eq("which one", m.order(1), 0);
            m.digit(1);
            m.digit(2);
            E.none("what -1", m.order(-1));
            E.none("what 3", m.order(3));
            E.none("what MIN", m.order(MIN));
            E.none("what MAX", m.order(MAX));
        });
    }

    private static void sign33() {
        E.says(33, "0 .. 9 is laid on it", m -> {
            for (int sign = 0; sign <= 9; sign++) {
                E.eq("sign", m.sign(sign), sign + 1);
                E.eq("the highest", m.stack(0), sign);
                E.eq("how many", m.stack(1), sign + 1);
            }
        });
        E.says(33, "up to 12 told signs", m -> {
            for (int i = 1; i <= 12; i++) {
                E.eq("sign", m.sign(i == 12 ? 14 : 0), i);
            }
            E.none("the 13th", m.sign(0));
            E.eq("eleven lie there", m.stack(1), 11);
        });
        E.says(33, "A sign for STACK (NONE: it is empty then): how many; NONE if one can't be, or there are twelve.", m -> {
            E.eq("none of none", m.sign(NONE), 0);
            E.none("15", m.sign(15));
            E.none("-2", m.sign(-2));
            E.none("MIN", m.sign(MIN));
            E.none("MAX", m.sign(MAX));
            E.eq("none came", m.stack(1), 0);
            E.eq("0", m.sign(0), 1);
            E.eq("9", m.sign(9), 2);
            E.eq("empty then", m.sign(NONE), 0);
            E.eq("nothing lies there", m.stack(1), 0);
        });
    }

    private static void stacked(DewMarket m, int highest, int many, int stuck, int... signs) {
        m.sign(NONE);
        for (int each : signs) {
            m.sign(each);
        }
        String row = java.util.Arrays.toString(signs);
        E.eq("the highest of " + row, m.stack(0), highest);
        E.eq("how many of " + row, m.stack(1), many);
        E.eq("at which of " + row, m.stack(2), stuck);
    }

    private static void stack34() {
        E.says(34, "10, 11, 12 take the two highest and lay their sum, the lower one less the higher, their product", m -> {
            stacked(m, 10, 1, NONE, 7, 3, 10);
            stacked(m, 4, 1, NONE, 7, 3, 11);
            stacked(m, -4, 1, NONE, 3, 7, 11);
            stacked(m, 21, 1, NONE, 7, 3, 12);
            stacked(m, 3, 2, NONE, 9, 1, 2, 10);
            stacked(m, 0, 1, NONE, 0);
            stacked(m, 9, 1, NONE, 9);
        });
        E.says(34, "13 lays the highest once more; 14 changes the two highest with one another", m -> {
            stacked(m, 7, 2, NONE, 7, 13);
            stacked(m, 7, 2, NONE, 7, 3, 14);
            stacked(m, -4, 1, NONE, 7, 3, 14, 11);
            stacked(m, 2, 3, NONE, 1, 2, 3, 14);
            stacked(m, 0, 12, NONE, 0, 13, 13, 13, 13, 13, 13, 13, 13, 13, 13, 13);
            stacked(m, 5, 12, NONE, 0, 1, 2, 3, 4, 5, 6, 7, 8, 9, 5, 13);
        });
        E.says(34, "what is the highest behind all (ints, which wrap)", m -> {
            int wrapped = 1;
            for (int i = 0; i < 32; i++) {
                wrapped *= 9;
            }
            stacked(m, wrapped, 2, NONE, 9, 13, 12, 13, 12, 13, 12, 13, 12, 13, 12, 13);
            stacked(m, 0, 1, NONE, 4, 13, 12, 13, 12, 13, 12, 13, 12, 13, 12);
            int below = 7;
            for (int i = 0; i < 4; i++) {
                below *= below;
            }
            stacked(m, below * 3, 1, NONE, 7, 13, 12, 13, 12, 13, 12, 13, 12, 3, 12);
        });
    }

    private static void stackStuck34() {
        E.says(34, "at which sign (from 0) it can't go on (NONE; nothing more is done then, all stays as it lies; nothing there: 0)", m -> {
            stacked(m, 0, 0, NONE);
            for (int sign = 10; sign <= 14; sign++) {
                stacked(m, 0, 0, 0, sign, 5, 5);
            }
            for (int sign : new int[] {10, 11, 12, 14}) {
                stacked(m, 4, 1, 1, 4, sign, 5, 6);
            }
            stacked(m, 4, 2, NONE, 4, 13);
            stacked(m, 120, 1, 5, 4, 5, 6, 12, 12, 12, 9, 9);
            stacked(m, -13, 1, 11, 0, 1, 2, 3, 4, 5, 10, 10, 10, 11, 10, 10);
        });
        E.says(34, "NONE - 99 for another what", m -> {
            for (int what : new int[] {-1, 3, MIN, MAX}) {
                E.eq("what " + what, m.stack(what), -100);
            }
        });
    }

    private static void strung35() {
        E.says(35, "STRUNG n (0 .. 9999) of 1, 2, 3, 5, 8, .., no two next to one another, the greatest first", m -> {
            E.eq("0", m.strung(0, 0), 0);
            E.eq("0", m.strung(0, 1), 0);
            int[] bits = {0, 1, 2, 4, 5, 8, 9, 10, 16, 17, 18, 20, 21, 32};
            for (int n = 0; n < bits.length; n++) {
                E.eq("bits of " + n, m.strung(n, 0), bits[n]);
                E.eq("how many of " + n, m.strung(n, 1), Integer.bitCount(bits[n]));
            }
            int[] strings = {1, 2, 3, 5, 8, 13, 21, 34, 55, 89, 144, 233, 377, 610, 987, 1597, 2584, 4181, 6765};
            for (int i = 0; i < strings.length; i++) {
                E.eq("just " + strings[i], m.strung(strings[i], 0), 1 << i);
                E.eq("just " + strings[i], m.strung(strings[i], 1), 1);
            }
            for (int n = 0; n <= 9999; n += 101) {
                int got = m.strung(n, 0);
                int sum = 0;
                for (int i = 0; i < strings.length; i++) {
                    sum += (got >> i & 1) * strings[i];
                }
                E.eq("comes to " + n, sum, n);
                E.eq("no neighbours in " + n, got & got << 1, 0);
                E.eq("how many of " + n, m.strung(n, 1), Integer.bitCount(got));
            }
            E.eq("9999", m.strung(9999, 0), 1 << 18 | 1 << 16 | 1 << 13 | 1 << 7 | 1 << 3 | 1);
            E.eq("9999", m.strung(9999, 1), 6);
        });
        E.says(35, "NONE if n can't be, or another what", m -> {
            for (int what = 0; what <= 1; what++) {
                E.none("n -1", m.strung(-1, what));
                E.none("n 10000", m.strung(10000, what));
                E.none("n MIN", m.strung(MIN, what));
                E.none("n MAX", m.strung(MAX, what));
            }
            E.none("what -1", m.strung(1, -1));
            E.none("what 2", m.strung(1, 2));
            E.none("what MIN", m.strung(1, MIN));
        });
    }

    private static void run36() {
        E.says(36, "a told row of up to 12 (0 .. 9)", m -> {
            for (int i = 1; i <= 12; i++) {
                E.eq("run", m.run(i == 1 ? 0 : 9), i);
            }
            E.none("the 13th", m.run(9));
            E.eq("eleven nines", m.runs(199), 2);
            E.eq("not twelve", m.runs(208), 0);
        });
        E.says(36, "One of RUNS (NONE: none is then): how many; NONE if one can't be, or there are twelve.", m -> {
            E.eq("none of none", m.run(NONE), 0);
            E.none("10", m.run(10));
            E.none("-2", m.run(-2));
            E.none("MIN", m.run(MIN));
            E.none("MAX", m.run(MAX));
            E.eq("none came", m.runs(0), 0);
            E.eq("0", m.run(0), 1);
            E.eq("9", m.run(9), 2);
            E.eq("none is then", m.run(NONE), 0);
            E.eq("none", m.runs(0), 0);
        });
    }

    private static void row(DewMarket m, int... numbers) {
        m.run(NONE);
        for (int each : numbers) {
            m.run(each);
        }
    }

    private static void runs37() {
        E.says(37, "how many rows side by side come to s (0 .. 108; one at least)", m -> {
            row(m, 5, 0, 0, 5);
            E.eq("0", m.runs(100), 3);
            E.eq("5", m.runs(105), 6);
            E.eq("10", m.runs(110), 1);
            E.eq("11", m.runs(111), 0);
            row(m, 1);
            E.eq("no empty one", m.runs(100), 0);
            E.eq("one alone", m.runs(101), 1);
            row(m, 0, 0, 0, 0, 0, 0, 0, 0, 0, 0, 0, 0);
            E.eq("all", m.runs(100), 78);
            row(m, 9, 9, 9, 9, 9, 9, 9, 9, 9, 9, 9, 9);
            E.eq("108", m.runs(208), 1);
            E.eq("9", m.runs(109), 12);
        });
        E.says(37, "the longest with no two alike; which is most often (of several the least; none told: NONE)", m -> {
            row(m, 9, 8, 7, 6, 5, 4, 3, 2, 1, 0, 9, 8);
            E.eq("ten", m.runs(0), 10);
            E.eq("of several the least", m.runs(1), 8);
            row(m, 3, 3, 3);
            E.eq("one", m.runs(0), 1);
            E.eq("three", m.runs(1), 3);
            row(m, 1, 2, 1, 3, 4, 1);
            E.eq("in the midst", m.runs(0), 4);
            E.eq("one", m.runs(1), 1);
            row(m, 1, 2, 3, 3);
            E.eq("at its first", m.runs(0), 3);
            row(m, 3, 3, 2, 1);
            E.eq("at its last", m.runs(0), 3);
            row(m, 5);
            E.eq("one", m.runs(0), 1);
            E.eq("one", m.runs(1), 5);
            row(m, 9, 0);
            E.eq("of several the least", m.runs(1), 0);
            row(m, 9, 0, 9);
            E.eq("the greatest, most often", m.runs(1), 9);
        });
        E.says(37, "(none told: 0, NONE, 0). NONE, too, for another what.", m -> {
            E.eq("the longest", m.runs(0), 0);
            E.none("which", m.runs(1));
            E.eq("how many", m.runs(100), 0);
            E.eq("how many", m.runs(208), 0);
            m.run(0);
            E.eq("of one", m.runs(100), 1);
            for (int what : new int[] {-1, 2, 99, 209, MIN, MAX}) {
                E.none("what " + what, m.runs(what));
            }
        });
    }

    private static void open(DewMarket m, String... rows) {
        for (int y = 0; y < 6; y++) {
            for (int x = 0; x < 6; x++) {
                m.hole(x, y, rows[y].charAt(x) == 'o');
            }
        }
    }

    private static void hole38() {
        E.says(38, "A place of LEAKS is open (true), shut (false): true; false if one can't be.", m -> {
            for (boolean open : new boolean[] {true, false}) {
                E.no("x -1", m.hole(-1, 0, open));
                E.no("x 6", m.hole(6, 0, open));
                E.no("y -1", m.hole(0, -1, open));
                E.no("y 6", m.hole(0, 6, open));
                E.no("MIN", m.hole(MIN, MIN, open));
                E.no("MAX", m.hole(MAX, MAX, open));
            }
            E.eq("nothing changed", m.leaks(1), 6);
            for (int y = 0; y < 6; y++) {
                E.yes("open", m.hole(5, y, true));
                E.yes("open once more", m.hole(5, y, true));
            }
            E.eq("it leaks", m.leaks(0), 1);
            E.yes("shut", m.hole(5, 5, false));
            E.yes("shut once more", m.hole(5, 5, false));
            E.eq("no more", m.leaks(0), 0);
            E.yes("shut what was shut", m.hole(0, 0, false));
            E.eq("one", m.leaks(1), 1);
        });
    }

    private static void leaking(DewMarket m, int whether, int few) {
        E.eq("whether", m.leaks(0), whether);
        E.eq("how few", m.leaks(1), few);
    }

    private static void leaks39() {
        E.says(39, "6 by 6 places, told open ones (all shut at first)", m -> leaking(m, 0, 6));
        E.says(39, "whether one comes from the top row (y 0) to the last one by open ones (up, right, down, left; 1, 0)", m -> {
            open(m, "oooooo", "oooooo", "oooooo", "oooooo", "oooooo", "oooooo");
            leaking(m, 1, 0);
            open(m, "o.....", "oooooo", ".....o", "oooooo", "o.....", "o.....");
            leaking(m, 1, 0);
            // down, right, up, right, down
            open(m, "o.....", "o.ooo.", "o.o.o.", "ooo.o.", "....o.", "....o.");
            leaking(m, 1, 0);
            // down, left, up, left, down
            open(m, ".....o", ".ooo.o", ".o.o.o", ".o.ooo", ".o....", ".o....");
            leaking(m, 1, 0);
            open(m, ".....o", ".ooo.o", ".o...o", ".o.ooo", ".o....", ".o....");
            leaking(m, 0, 1);
            // one step at a time
            open(m, ".....o", "....oo", "...oo.", "..oo..", ".oo...", "oo....");
            leaking(m, 1, 0);
            open(m, "o.....", "oo....", ".oo...", "..oo..", "...oo.", "....oo");
            leaking(m, 1, 0);
            // from the right to the left and back
            open(m, ".....o", "oooooo", "o.....", "oooooo", ".....o", ".....o");
            leaking(m, 1, 0);
            open(m, "o.....", ".o....", "..o...", "...o..", "....o.", ".....o");
            leaking(m, 0, 5);
            // the end of a row is not beside the next row's first
            open(m, ".....o", "o.....", ".....o", "o.....", ".....o", "o.....");
            leaking(m, 0, 3);
            open(m, "oooooo", "......", "oooooo", "......", "oooooo", "oooooo");
            leaking(m, 0, 2);
        });
        E.says(39, "how few more must be opened, so that one can", m -> {
            open(m, "......", "oooooo", "oooooo", "oooooo", "oooooo", "oooooo");
            leaking(m, 0, 1);
            open(m, "oooooo", "oooooo", "oooooo", "oooooo", "oooooo", "......");
            leaking(m, 0, 1);
            open(m, "......", "oooooo", "oooooo", "oooooo", "oooooo", "......");
            leaking(m, 0, 2);
            open(m, "......", "......", "..o...", "......", "......", "......");
            leaking(m, 0, 5);
            // round about is cheaper than straight down
            open(m, "o.....", "o.ooo.", "..o.o.", "o.o.o.", "o.o.o.", "ooo.o.");
            leaking(m, 0, 1);
            open(m, "o.....", "o.ooo.", "..o.o.", "ooo.o.", "......", "....o.");
            leaking(m, 0, 2);
        });
        E.says(39, "LEAKS what 0 whether, 1 how few. NONE for another what.", m -> {
            for (int what : new int[] {-1, 2, MIN, MAX}) {
                E.none("what " + what, m.leaks(what));
            }
        });
    }

    private static void colours40() {
        E.says(40, "strings of n (1 .. 40) beads of k (1 .. 9) colours, no two neighbours alike", m -> {
            for (int what = 0; what <= 1; what++) {
                for (int n : new int[] {0, -1, 41, MIN, MAX}) {
                    E.none("n " + n, m.colours(n, 3, what));
                }
                for (int k : new int[] {0, -1, 10, MIN, MAX}) {
                    E.none("k " + k, m.colours(3, k, what));
                }
                for (int k = 1; k <= 9; k++) {
                    E.eq("n 1", m.colours(1, k, what), k);
                    E.eq("n 2", m.colours(2, k, what), k * (k - 1));
                }
            }
            E.eq("a row of 40 of two", m.colours(40, 2, 0), 2);
            E.eq("a row of 40 of one", m.colours(40, 1, 0), 0);
        });
        E.says(40, "in a ring (its places told apart, the last one beside the first, too; n 1: k); modulo 1000000007", m -> {
            E.eq("one of one", m.colours(1, 1, 1), 1);
            E.eq("three of one", m.colours(3, 1, 1), 0);
            E.eq("three of two", m.colours(3, 2, 1), 0);
            E.eq("forty of two", m.colours(40, 2, 1), 2);
            E.eq("39 of two", m.colours(39, 2, 1), 0);
            E.eq("three of three", m.colours(3, 3, 1), 6);
            E.eq("four of three", m.colours(4, 3, 1), 18);
            for (int k = 1; k <= 9; k++) {
                // a row whose ends are alike is a ring of one less
                java.math.BigInteger p = java.math.BigInteger.valueOf(1000000007);
                java.math.BigInteger ring = java.math.BigInteger.ZERO;
                java.math.BigInteger one = java.math.BigInteger.valueOf(k);
                for (int n = 2; n <= 40; n++) {
                    one = one.multiply(java.math.BigInteger.valueOf(k - 1));
                    ring = one.subtract(ring);
                    E.eq("row " + n + " of " + k, m.colours(n, k, 0), one.mod(p).intValue());
                    E.eq("ring " + n + " of " + k, m.colours(n, k, 1), ring.mod(p).intValue());
                }
            }
        });
        E.says(40, "COLOURS what 0 in a row, 1 in a ring. NONE if one can't be, or another what.", m -> {
            for (int what : new int[] {-1, 2, MIN, MAX}) {
                E.none("what " + what, m.colours(3, 3, what));
            }
        });
    }

    private static void game41() {
        E.says(41, "two by turns lay a two by one on two empty ones side by side or one above the other", m -> {
            E.none("corner to corner", m.game(2, 2, 6));
            E.none("corner to corner", m.game(2, 2, 9));
            E.none("with one between", m.game(3, 1, 2));
            E.none("with one between", m.game(1, 3, 2));
            E.eq("side by side", m.game(3, 1, 1), 2);
            E.eq("one above the other", m.game(1, 3, 1), 3);
        });
        E.says(41, "who can't loses: how one who wins begins", m -> {
            E.none("one place", m.game(1, 1, 0));
            E.none("one full place", m.game(1, 1, 1));
            E.none("all full", m.game(4, 4, 65535));
            E.none("one place left", m.game(4, 4, 65534));
            E.none("no two side by side", m.game(4, 4, 0x5A5A));
            E.eq("two places left, lying", m.game(4, 4, 65532), 0);
            E.eq("the last two, lying", m.game(4, 4, 0x3FFF), 28);
            E.eq("the last two, standing", m.game(4, 4, 0xFFFF & ~(1 << 15 | 1 << 11)), 23);
            E.none("not round the edge", m.game(4, 4, 0xFFFF & ~(1 << 3 | 1 << 4)));
            E.none("not round the edge", m.game(3, 3, 0x1FF & ~(1 << 2 | 1 << 3)));
        });
        E.says(41, "place of its upper or left end times 2, and 1 more if it stands; the least; NONE: loses", m -> {
            E.eq("two lying", m.game(2, 1, 0), 0);
            E.eq("two standing", m.game(1, 2, 0), 1);
            E.eq("three lying: the least", m.game(3, 1, 0), 0);
            E.eq("four lying: the middle", m.game(4, 1, 0), 2);
            E.eq("four standing: the middle", m.game(1, 4, 0), 3);
            E.none("two by two", m.game(2, 2, 0));
            E.eq("two by two, one full: it stands", m.game(2, 2, 1), 3);
            E.eq("two by two, one full: it lies before it stands", m.game(2, 2, 8), 0);
            E.none("two pairs apart", m.game(3, 2, 2 | 16));
            E.none("four by four", m.game(4, 4, 0));
            E.eq("three by two, by trying", m.game(3, 2, 0), begins(3, 2, 0));
        });
        E.says(41, "some told full (a set, place x, y is bit y times w and x)", m -> {
            for (int w = 1; w <= 4; w++) {
                for (int h = 1; h <= 4; h++) {
                    int sets = 1 << w * h;
                    int step = sets > 512 ? sets / 64 - 1 : 1;
                    for (int full = 0; full < sets; full += step) {
                        E.eq("game(" + w + ", " + h + ", " + full + ")", m.game(w, h, full), begins(w, h, full));
                    }
                }
            }
        });
    }

    /** How one who wins begins, by trying all. */
    private static int begins(int w, int h, int full) {
        for (int start = 0; start < 2 * w * h; start++) {
            int x = start / 2 % w;
            int y = start / 2 / w;
            boolean stands = start % 2 == 1;
            if (stands ? y + 1 < h : x + 1 < w) {
                int two = 1 << y * w + x | 1 << (stands ? (y + 1) * w + x : y * w + x + 1);
                if ((full & two) == 0 && begins(w, h, full | two, new java.util.HashMap<>()) == NONE) {
                    return start;
                }
            }
        }
        return NONE;
    }

    private static int begins(int w, int h, int full, java.util.Map<Integer, Integer> known) {
        Integer found = known.get(full);
        if (found != null) {
            return found;
        }
        int best = NONE;
        for (int place = 0; place < w * h && best == NONE; place++) {
            if (place % w + 1 < w && (full & 3 << place) == 0 && begins(w, h, full | 3 << place, known) == NONE) {
                best = place * 2;
            }
            int standing = 1 << place | 1 << place + w;
            if (best == NONE && place / w + 1 < h && (full & standing) == 0
                    && begins(w, h, full | standing, known) == NONE) {
                best = place * 2 + 1;
            }
        }
        known.put(full, best);
        return best;
    }

    private static void gameRefused41() {
        E.says(41, "GAME on w by h (1 .. 4 each) places", m -> {
            for (int size : new int[] {0, -1, 5, 6, 32, MIN, MAX}) {
                for (int other = 1; other <= 4; other++) {
                    E.none("w " + size, m.game(size, other, 0));
                    E.none("h " + size, m.game(other, size, 0));
                }
                E.none("both " + size, m.game(size, size, 0));
            }
        });
        E.says(41, "GAME. NONE, too, if one can't be (the set has no other bits).", m -> {
            for (int w = 1; w <= 4; w++) {
                for (int h = 1; h <= 4; h++) {
                    E.none("a bit more", m.game(w, h, 1 << w * h));
                    E.none("the highest bit", m.game(w, h, MIN));
                    E.none("all bits", m.game(w, h, -1));
                }
            }
            E.eq("all of its bits but two", m.game(2, 2, 12), 0);
            List<Integer> before = Edges.all(m);
            m.game(4, 4, 1);
            E.same("nothing changes by it", Edges.all(m), before);
        });
    }
}
