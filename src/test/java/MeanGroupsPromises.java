// For each promise of the document: ordinary inputs, the edges it names, and wrong inputs.
public final class MeanGroupsPromises {
    private static int wrong = 0;

    private static void due(int promise, String call, long got, long want) {
        if (got != want) {
            wrong++;
            System.out.println("promise " + promise + ": " + call + " answered " + got + ", due is " + want);
        }
    }

    private static MeanGroups with(int... coordinates) {
        MeanGroups x = new MeanGroups();
        for (int i = 0; i + 1 < coordinates.length; i += 2) {
            x.add(coordinates[i], coordinates[i + 1]);
        }
        return x;
    }

    /** Two points, one at each of two seeds, after one round: group 0 and group 1 have one each. */
    private static MeanGroups parted() {
        MeanGroups x = with(1, 0, 9, 0);
        x.seed(1, 10, 0);
        x.round();
        return x;
    }

    /** Whether the object still stands as parted() left it, middles too. */
    private static void dueParted(int promise, String after, MeanGroups x) {
        due(promise, "group(0) after " + after, x.group(0), 0);
        due(promise, "group(1) after " + after, x.group(1), 1);
        due(promise, "size(0) after " + after, x.size(0), 1);
        due(promise, "sum(1, 0) after " + after, x.sum(1, 0), 9);
        due(promise, "round() after " + after, x.round(), 0);
    }

    private static void dueStartedOver(int promise, String after, MeanGroups x, int points) {
        for (int i = 0; i < points; i++) {
            due(promise, "group(" + i + ") after " + after, x.group(i), -1);
        }
        for (int g = 0; g < 4; g++) {
            due(promise, "size(" + g + ") after " + after, x.size(g), 0);
            for (int which = 0; which < 3; which++) {
                due(promise, "sum(" + g + ", " + which + ") after " + after, x.sum(g, which), 0);
            }
        }
        due(promise, "round() after " + after, x.round(), points);
    }

    /**
     * The seeds are at 0 and 6, the middles have moved to 3/2 and 5. near(1) tells them apart: the
     * point at 3 is equally near to both seeds, but nearer to 3/2 than to 5.
     */
    private static MeanGroups moved() {
        MeanGroups x = with(0, 0, 4, 0, 6, 0, 3, 0);
        x.seed(1, 6, 0);
        x.round();
        return x;
    }

    private static void dueMoved(int promise, String after, MeanGroups x) {
        due(promise, "near(1) at the moved middles after " + after, x.near(1), 2);
    }

    private static void dueAtSeeds(int promise, String after, MeanGroups x) {
        due(promise, "near(1) at the seeds after " + after, x.near(1), 3);
    }

    private static void newObject() {
        MeanGroups x = new MeanGroups();
        due(1, "group(0)", x.group(0), -1);
        due(1, "near(0)", x.near(0), 0);
        due(1, "near(1)", x.near(1), 0);
        due(1, "near(2)", x.near(2), -1);
        due(1, "size(0)", x.size(0), 0);
        due(1, "round()", x.round(), 0);
        due(1, "drop(0)", x.drop(0), -1);
        due(1, "add(0, 0)", x.add(0, 0), 1);
        // All four seeds are (0, 0) if no point tells one from another.
        x.groups(4);
        for (int g = 0; g < 4; g++) {
            due(1, "near(" + g + ")", x.near(g), 1);
        }
        x.add(50, -50);
        x.add(-50, 50);
        x.add(-50, -50);
        for (int g = 0; g < 4; g++) {
            due(1, "near(" + g + ")", x.near(g), 4);
        }
        MeanGroups other = new MeanGroups();
        due(1, "add on another object", other.add(1, 1), 1);
    }

    private static void add() {
        MeanGroups x = new MeanGroups();
        int[][] outside = {{51, 0}, {-51, 0}, {0, 51}, {0, -51}, {51, 51}, {Integer.MAX_VALUE, 0},
            {Integer.MIN_VALUE, 0}, {0, Integer.MAX_VALUE}, {0, Integer.MIN_VALUE}};
        for (int[] p : outside) {
            due(2, "add(" + p[0] + ", " + p[1] + ")", x.add(p[0], p[1]), -1);
        }
        due(2, "add(50, 50)", x.add(50, 50), 1);
        due(2, "add(-50, -50)", x.add(-50, -50), 2);
        due(2, "add(50, -50)", x.add(50, -50), 3);
        due(2, "add(-50, 50)", x.add(-50, 50), 4);
        for (int i = 5; i <= 24; i++) {
            due(2, "add(7, 7), the same again", x.add(7, 7), i);
        }
        due(2, "add as the 25th", x.add(7, 7), -1);
        due(2, "round()", x.round(), 24);
        due(2, "add as the 25th", x.add(1, 1), -1);
        due(2, "group(23) after a refused add", x.group(23), 0);
        due(2, "group(24) after a refused add", x.group(24), -1);
        due(2, "size(0) after a refused add", x.size(0), 24);
        due(2, "drop(0)", x.drop(0), 23);
        due(2, "add(0, 0) in the free place", x.add(0, 0), 24);

        MeanGroups y = parted();
        for (int[] p : outside) {
            y.add(p[0], p[1]);
        }
        dueParted(2, "refused adds", y);
        y.add(5, 5);
        dueStartedOver(2, "add(5, 5)", y, 3);

        MeanGroups z = moved();
        for (int[] p : outside) {
            z.add(p[0], p[1]);
        }
        dueMoved(2, "refused adds", z);
        z.add(0, 1);
        dueAtSeeds(2, "add(0, 1)", z);
    }

    private static void drop() {
        MeanGroups x = with(1, 10, 2, 20, 3, 30, 4, 40);
        due(3, "drop(-1)", x.drop(-1), -1);
        due(3, "drop(4)", x.drop(4), -1);
        due(3, "drop(24)", x.drop(24), -1);
        due(3, "drop(MAX)", x.drop(Integer.MAX_VALUE), -1);
        due(3, "drop(MIN)", x.drop(Integer.MIN_VALUE), -1);
        due(3, "drop(1)", x.drop(1), 3);
        x.groups(1);
        x.round();
        due(3, "sum(0, 0)", x.sum(0, 0), 8);
        due(3, "sum(0, 1)", x.sum(0, 1), 80);
        due(3, "group(3)", x.group(3), -1);
        due(3, "drop(2), the last", x.drop(2), 2);
        x.round();
        due(3, "sum(0, 0)", x.sum(0, 0), 4);
        due(3, "drop(0), the first", x.drop(0), 1);
        x.round();
        due(3, "sum(0, 0)", x.sum(0, 0), 3);
        due(3, "sum(0, 1)", x.sum(0, 1), 30);
        due(3, "drop(0), the only one", x.drop(0), 0);
        due(3, "drop(0) without points", x.drop(0), -1);
        due(3, "add after all were dropped", x.add(9, 9), 1);

        // The order of those behind is kept.
        MeanGroups y = with(0, 0, 10, 0, -10, 0, 10, 10);
        y.seed(0, -10, 0);
        y.seed(1, 10, 0);
        y.drop(0);
        y.round();
        due(3, "group(0) after drop(0)", y.group(0), 1);
        due(3, "group(1) after drop(0)", y.group(1), 0);
        due(3, "group(2) after drop(0)", y.group(2), 1);

        MeanGroups full = new MeanGroups();
        for (int i = 0; i < 24; i++) {
            full.add(i, -i);
        }
        due(3, "drop(24) of 24", full.drop(24), -1);
        due(3, "drop(0) of 24", full.drop(0), 23);
        full.groups(1);
        full.round();
        due(3, "sum(0, 0) after drop(0) of 24", full.sum(0, 0), 276);
        due(3, "drop(22) of 23", full.drop(22), 22);
        full.round();
        due(3, "sum(0, 1) after drop(22) of 23", full.sum(0, 1), -253);

        MeanGroups z = parted();
        z.drop(2);
        z.drop(-1);
        dueParted(3, "refused drops", z);
        z.drop(0);
        dueStartedOver(3, "drop(0)", z, 1);

        MeanGroups w = moved();
        w.drop(4);
        w.drop(-1);
        dueMoved(3, "refused drops", w);
        w.drop(0);
        dueAtSeeds(3, "drop(0)", w);
    }

    private static void seed() {
        MeanGroups x = with(1, 0, 9, 0);
        int[][] outside = {{-1, 0, 0}, {4, 0, 0}, {0, 51, 0}, {0, -51, 0}, {0, 0, 51}, {0, 0, -51},
            {Integer.MAX_VALUE, 0, 0}, {Integer.MIN_VALUE, 0, 0}, {1, Integer.MAX_VALUE, 0},
            {1, Integer.MIN_VALUE, 0}, {1, 0, Integer.MAX_VALUE}, {1, 0, Integer.MIN_VALUE}, {1, 51, 0}, {3, 0, 51}};
        for (int[] s : outside) {
            due(4, "seed(" + s[0] + ", " + s[1] + ", " + s[2] + ")", x.seed(s[0], s[1], s[2]), -1);
        }
        x.round();
        due(4, "size(0), all seeds still (0, 0)", x.size(0), 2);
        for (int g = 0; g < 4; g++) {
            due(4, "seed(" + g + ", 50, -50)", x.seed(g, 50, -50), 0);
            due(4, "seed(" + g + ", -50, 50)", x.seed(g, -50, 50), 0);
        }

        MeanGroups y = parted();
        for (int[] s : outside) {
            y.seed(s[0], s[1], s[2]);
        }
        dueParted(4, "refused seeds", y);
        y.seed(0, 1, 0);
        dueStartedOver(4, "seed(0, 1, 0)", y, 2);
        y.seed(3, 5, 0);
        dueStartedOver(4, "seed(3, 5, 0), a group not below K", y, 2);
        due(4, "near(3), not below K", y.near(3), -1);
        // What was set while K was 2 stands when K is 4; group 2 is at (0, 0) still.
        y.add(5, 0);
        y.groups(4);
        y.round();
        due(4, "group(2)", y.group(2), 3);
        due(4, "size(3)", y.size(3), 1);

        // x and y of a seed are not the same thing.
        MeanGroups z = with(0, 30, 30, 0);
        z.seed(0, 30, 0);
        z.seed(1, 0, 30);
        z.round();
        due(4, "group(0)", z.group(0), 1);
        due(4, "group(1)", z.group(1), 0);

        MeanGroups w = moved();
        for (int[] s : outside) {
            w.seed(s[0], s[1], s[2]);
        }
        dueMoved(4, "refused seeds", w);
        w.seed(2, 50, 50);
        dueAtSeeds(4, "seed(2, 50, 50)", w);
    }

    private static void groups() {
        MeanGroups x = with(0, 0);
        int[][] asked = {{1, 1}, {2, 2}, {3, 3}, {4, 4}, {0, 1}, {5, 4}, {-1, 1}, {-7, 1}, {99, 4},
            {Integer.MIN_VALUE, 1}, {Integer.MAX_VALUE, 4}};
        for (int[] a : asked) {
            x.groups(a[0]);
            for (int g = 0; g < 6; g++) {
                due(5, "near(" + g + ") after groups(" + a[0] + ")", x.near(g), g < a[1] ? 1 : -1);
            }
        }
        MeanGroups y = parted();
        y.groups(3);
        dueStartedOver(5, "groups(3)", y, 2);
        y.groups(1);
        dueStartedOver(5, "groups(1)", y, 2);
        due(5, "size(0)", y.size(0), 2);
        due(5, "size(1) with K 1", y.size(1), 0);
        // Seeds stay as they are when K shrinks and grows again.
        y.groups(2);
        y.round();
        due(5, "group(1)", y.group(1), 1);

        MeanGroups w = moved();
        w.groups(2);
        dueAtSeeds(5, "groups(2)", w);
    }

    private static void reset() {
        MeanGroups x = parted();
        x.reset();
        dueStartedOver(6, "reset()", x, 2);
        due(6, "group(1)", x.group(1), 1);

        MeanGroups w = moved();
        dueMoved(6, "round()", w);
        w.reset();
        dueAtSeeds(6, "reset()", w);
        due(6, "near(2), K as before", w.near(2), -1);
        due(6, "round(), points as before", w.round(), 4);

        MeanGroups none = new MeanGroups();
        none.reset();
        due(6, "round() without points", none.round(), 0);
    }

    private static void round() {
        due(7, "round() without points", new MeanGroups().round(), 0);

        // One round at a time: 0 | 2 4 6, then the point at 2 is equally near to 0 and 4.
        MeanGroups x = with(0, 0, 2, 0, 4, 0, 6, 0);
        x.seed(1, 2, 0);
        due(7, "round(), the first", x.round(), 4);
        due(7, "size(0)", x.size(0), 1);
        due(7, "round(), the second", x.round(), 1);
        due(7, "group(1), a tie to the least number", x.group(1), 0);
        due(7, "size(0)", x.size(0), 2);
        due(7, "round(), the third", x.round(), 0);
        due(7, "round(), the fourth", x.round(), 0);

        // Ties of three and four go to the least number too.
        MeanGroups tie = with(0, 0);
        tie.groups(4);
        tie.seed(0, 9, 9);
        tie.seed(1, 3, 4);
        tie.seed(2, 5, 0);
        tie.seed(3, -4, -3);
        tie.round();
        due(7, "group(0), a tie of 1, 2 and 3", tie.group(0), 1);

        // A mean is not rounded: the middles are 7/3 and 29/6, and 3 is nearer to the first; if they
        // were cut to 2 and 4, it would be equally near to both.
        MeanGroups exact = with(2, 0, 2, 0, 3, 0, 4, 0, 5, 0, 5, 0, 5, 0, 5, 0, 5, 0);
        exact.seed(0, 2, 0);
        exact.seed(1, 5, 0);
        exact.round();
        due(7, "near(0)", exact.near(0), 3);
        due(7, "near(1)", exact.near(1), 6);
        due(7, "round()", exact.round(), 0);

        // Negative means are not rounded either: the middles are 1 and -3/2, so that 0 is nearer to
        // 1; a mean that is cut to -1 would be equally near.
        MeanGroups below = with(-1, 0, -2, 0, 1, 0, 2, 0, 0, 0);
        below.seed(0, 2, 0);
        below.seed(1, -2, 0);
        below.round();
        due(7, "group(4), a tie", below.group(4), 0);
        due(7, "sum(0, 0)", below.sum(0, 0), 3);
        due(7, "sum(1, 0)", below.sum(1, 0), -3);
        due(7, "near(0)", below.near(0), 3);
        due(7, "near(1)", below.near(1), 2);

        // y counts as x does.
        MeanGroups up = with(0, -3, 0, 9, 4, 5);
        up.seed(0, 4, -2);
        up.seed(1, 0, 9);
        up.round();
        due(7, "group(0)", up.group(0), 0);
        due(7, "group(1)", up.group(1), 1);
        due(7, "group(2)", up.group(2), 1);

        // The greatest distances there are: corners of the plane, many points in one group.
        MeanGroups far = new MeanGroups();
        for (int i = 0; i < 11; i++) {
            far.add(-50, -50);
        }
        for (int i = 0; i < 12; i++) {
            far.add(50, 50);
        }
        far.add(49, 49);
        far.seed(0, -50, -50);
        far.seed(1, 50, 50);
        due(7, "round(), the first", far.round(), 24);
        due(7, "size(0)", far.size(0), 11);
        due(7, "size(1)", far.size(1), 13);
        due(7, "round(), the second", far.round(), 0);
        due(7, "near(0)", far.near(0), 11);
        due(7, "near(1)", far.near(1), 13);

        emptyGroupKeepsItsMiddle();
    }

    private static void emptyGroupKeepsItsMiddle() {
        // Group 2 is empty at its seed; its middle takes part all the same, and draws nothing yet.
        MeanGroups x = with(-10, 0, 10, 0);
        x.groups(3);
        x.seed(0, -10, 0);
        x.seed(1, 10, 0);
        x.seed(2, 0, 20);
        x.round();
        due(7, "size(2)", x.size(2), 0);
        due(7, "near(2)", x.near(2), 0);

        // All points start in group 0, so group 1 stays at (0, 0); group 0's middle goes to (3, 0),
        // and the point at (0, 0) is drawn by group 1 in the next round.
        MeanGroups y = with(0, 0, 2, 0, 4, 0, 6, 0);
        due(7, "round(), the first", y.round(), 4);
        due(7, "size(0)", y.size(0), 4);
        due(7, "near(1), the seed that stayed", y.near(1), 1);
        due(7, "round(), the second", y.round(), 1);
        due(7, "group(0)", y.group(0), 1);

        // A group that loses its last point keeps the mean it had: group 0 is left at (-2, 5); back
        // at its seed (-11, 1) it would draw point 1 again.
        MeanGroups z = with(10, 9, -11, 0, -10, -4, 7, 10);
        z.groups(3);
        z.seed(0, -11, 1);
        z.seed(1, -9, -8);
        z.seed(2, -8, -4);
        due(7, "round(), the first", z.round(), 4);
        dueGroups(7, "the first round", z, 2, 0, 2, 0);
        due(7, "round(), the second", z.round(), 3);
        dueGroups(7, "the second round", z, 2, 1, 1, 2);
        due(7, "size(0), emptied", z.size(0), 0);
        due(7, "near(0), emptied", z.near(0), 0);
        due(7, "round(), the third", z.round(), 0);
        due(8, "settle()", z.settle(), 3);
    }

    private static void dueGroups(int promise, String after, MeanGroups x, int... want) {
        for (int i = 0; i < want.length; i++) {
            due(promise, "group(" + i + ") after " + after, x.group(i), want[i]);
        }
    }

    private static void settle() {
        MeanGroups none = new MeanGroups();
        due(13, "settle() without points", none.settle(), 1);
        due(13, "settle() without points, again", none.settle(), 1);
        none.add(1, 1);
        due(8, "settle() with a point", none.settle(), 2);
        none.drop(0);
        due(13, "settle() without points, after a drop", none.settle(), 1);

        MeanGroups x = with(0, 0, 2, 0, 4, 0, 6, 0);
        x.seed(1, 2, 0);
        due(8, "settle()", x.settle(), 3);
        due(8, "round() after settle()", x.round(), 0);
        due(8, "settle() again, from the seeds", x.settle(), 3);
        due(8, "group(1)", x.group(1), 0);
        x.reset();
        x.round();
        due(8, "settle() after a round, from the seeds", x.settle(), 3);

        // Settled is not the same as one round.
        due(8, "sum(1, 0)", x.sum(1, 0), 10);
        due(8, "near(0)", x.near(0), 2);
        due(8, "near(1)", x.near(1), 2);

        MeanGroups one = with(5, 5, -5, -5, 7, 7);
        one.groups(1);
        due(8, "settle() with one group", one.settle(), 2);
        due(8, "size(0)", one.size(0), 3);

        atMostFortyRounds();
    }

    /** 24 points that need very many rounds; a few of them, and the seeds, decide how many. */
    private static MeanGroups slow(int x4, int y4, int x6, int y6, int... seeds) {
        MeanGroups x = with(11, 2, -2, 10, -8, 35, -5, 7, x4, y4, -50, 39, x6, y6, 30, -9, -19, -41, 10, -1,
            -22, 42, 5, 32, 6, -17, 10, 8, -17, -2, 48, -36, -4, -2, -14, -48, -42, -38, -4, -1, -24, 47,
            -10, 31, -1, -7, 35, -18);
        x.groups(4);
        for (int g = 0; g < 4; g++) {
            x.seed(g, seeds[2 * g], seeds[2 * g + 1]);
        }
        return x;
    }

    private static void atMostFortyRounds() {
        dueRounds("39 rounds", slow(-17, 17, 30, 0, 25, 43, 21, 33, 26, 47, -25, -4), 39);
        dueRounds("40 rounds", slow(-19, 19, 33, -2, 25, 43, 21, 33, 36, 38, -24, -7), 40);
        dueRounds("41 rounds", slow(-17, 17, 35, -2, 25, 43, 21, 33, 26, 47, -31, -15), 41);
        dueRounds("61 rounds", slow(-17, 17, 33, -2, 25, 43, 21, 33, 26, 47, -24, -7), 61);
    }

    /** How many rounds it needs, counted one by one; settle stops at 40, and round goes on there. */
    private static void dueRounds(String name, MeanGroups x, int needed) {
        x.reset();
        int made = 1;
        while (x.round() != 0 && made < 100) {
            made++;
        }
        due(7, "rounds until none moves, " + name, made, needed);
        due(8, "settle(), " + name, x.settle(), Math.min(needed, 40));
        int more = 1;
        while (x.round() != 0 && more < 100) {
            more++;
        }
        due(8, "rounds after settle(), " + name, more, Math.max(needed - 40, 1));
    }

    private static void group() {
        MeanGroups x = parted();
        due(9, "group(0)", x.group(0), 0);
        due(9, "group(1)", x.group(1), 1);
        due(9, "group(-1)", x.group(-1), -1);
        due(9, "group(2)", x.group(2), -1);
        due(9, "group(23)", x.group(23), -1);
        due(9, "group(24)", x.group(24), -1);
        due(9, "group(MAX)", x.group(Integer.MAX_VALUE), -1);
        due(9, "group(MIN)", x.group(Integer.MIN_VALUE), -1);
        x.reset();
        due(9, "group(0), in none", x.group(0), -1);
        due(9, "group(1), in none", x.group(1), -1);
    }

    private static void size() {
        MeanGroups x = with(1, 0, 9, 0, 11, 0);
        x.seed(1, 10, 0);
        due(10, "size(0) before a round", x.size(0), 0);
        x.round();
        due(10, "size(0)", x.size(0), 1);
        due(10, "size(1)", x.size(1), 2);
        int[] none = {-1, -2, 2, 3, 4, 5, Integer.MAX_VALUE, Integer.MIN_VALUE};
        for (int g : none) {
            due(10, "size(" + g + ")", x.size(g), 0);
        }
        x.reset();
        due(10, "size(-1), all in no group", x.size(-1), 0);
    }

    private static void sum() {
        MeanGroups x = with(1, -2, 9, 3, 11, -7);
        x.seed(1, 10, 0);
        for (int which = 0; which < 3; which++) {
            due(11, "sum(1, " + which + ") before a round", x.sum(1, which), 0);
        }
        x.round();
        due(11, "sum(0, 0)", x.sum(0, 0), 1);
        due(11, "sum(0, 1)", x.sum(0, 1), -2);
        due(11, "sum(0, 2)", x.sum(0, 2), 5);
        due(11, "sum(1, 0)", x.sum(1, 0), 20);
        due(11, "sum(1, 1)", x.sum(1, 1), -4);
        due(11, "sum(1, 2)", x.sum(1, 2), 81 + 9 + 121 + 49);
        int[] bad = {-1, -2, 2, 3, 4, 5, Integer.MAX_VALUE, Integer.MIN_VALUE};
        for (int g : bad) {
            for (int which = 0; which < 3; which++) {
                due(11, "sum(" + g + ", " + which + ")", x.sum(g, which), 0);
            }
        }
        int[] badWhich = {-1, 3, 4, Integer.MAX_VALUE, Integer.MIN_VALUE};
        for (int which : badWhich) {
            due(11, "sum(1, " + which + ")", x.sum(1, which), 0);
        }
        x.reset();
        for (int which = 0; which < 3; which++) {
            due(11, "sum(-1, " + which + "), all in no group", x.sum(-1, which), 0);
        }

        MeanGroups full = new MeanGroups();
        full.groups(1);
        for (int i = 0; i < 24; i++) {
            full.add(-50, 50);
        }
        full.round();
        due(11, "sum(0, 0), the least", full.sum(0, 0), -1200);
        due(11, "sum(0, 1), the greatest", full.sum(0, 1), 1200);
        due(11, "sum(0, 2), the greatest", full.sum(0, 2), 120000);
    }

    private static void near() {
        MeanGroups x = with(0, 0, 5, 0, 10, 0);
        x.seed(1, 10, 0);
        due(12, "near(0) before a round", x.near(0), 2);
        due(12, "near(1) before a round, with a tie", x.near(1), 2);
        x.round();
        // The point at 5 is in group 0, whose middle is 5/2 now.
        due(12, "near(0)", x.near(0), 2);
        due(12, "near(1)", x.near(1), 1);
        int[] none = {-1, 2, 3, 4, Integer.MAX_VALUE, Integer.MIN_VALUE};
        for (int g : none) {
            due(12, "near(" + g + ")", x.near(g), -1);
        }
        // It asks for the middles as they are now, not for the groups: 2 is in group 1 and is
        // equally near to 0 and 4, the middles after the round.
        MeanGroups y = with(0, 0, 2, 0, 4, 0, 6, 0);
        y.seed(1, 2, 0);
        y.round();
        due(12, "group(1)", y.group(1), 1);
        due(12, "near(0), also one that is not in it", y.near(0), 2);
        due(12, "near(1), also in a tie", y.near(1), 3);
        due(12, "group(1), near changes nothing", y.group(1), 1);
        due(12, "round(), near changes nothing", y.round(), 1);
    }

    private static void orderAndLimits() {
        MeanGroups x = parted();
        x.seed(1, 10, 0);
        dueStartedOver(13, "seed as it was", x, 2);
        x.groups(2);
        dueStartedOver(13, "groups as it was", x, 2);
        x.groups(4);
        x.round();
        x.groups(7);
        dueStartedOver(13, "groups(7) after groups(4)", x, 2);
        x.groups(1);
        x.round();
        x.groups(-3);
        dueStartedOver(13, "groups(-3) after groups(1)", x, 2);
        x.seed(3, 0, 0);
        dueStartedOver(13, "seed of a group not below K, as it was", x, 2);
    }

    // What README.md shows under "How to use it", call by call: whoever changes one changes the other.
    private static void exampleOfTheReadme() {
        MeanGroups x = new MeanGroups();
        due(4, "README: seed(1, 10, 10)", x.seed(1, 10, 10), 0);
        due(2, "README: add(1, 2)", x.add(1, 2), 1);
        due(2, "README: add(2, 1)", x.add(2, 1), 2);
        due(2, "README: add(9, 11)", x.add(9, 11), 3);
        due(8, "README: settle()", x.settle(), 2);
        due(9, "README: group(2)", x.group(2), 1);
        due(10, "README: size(0)", x.size(0), 2);
        due(11, "README: sum(0, 1)", x.sum(0, 1), 3);
        due(12, "README: near(1)", x.near(1), 1);
        due(3, "README: drop(0)", x.drop(0), 2);
        due(9, "README: group(1)", x.group(1), -1);
        due(7, "README: round()", x.round(), 2);
        due(2, "README: add(51, 0)", x.add(51, 0), -1);
    }

    public static void main(String[] args) {
        newObject();
        add();
        drop();
        seed();
        groups();
        reset();
        round();
        settle();
        group();
        size();
        sum();
        near();
        orderAndLimits();
        exampleOfTheReadme();
        System.out.println(wrong == 0 ? "all answers are as due" : wrong + " answers are not as due");
        if (wrong != 0) {
            System.exit(1);
        }
    }
}
