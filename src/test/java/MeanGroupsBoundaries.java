// For each sentence of the document that names a boundary case: a test for each case that it names. A
// test that fails tells the promise's number, the sentence, and the case. The sentences of "What it is"
// and "Terms" come with the number of the promise in which they show.
public final class MeanGroupsBoundaries {
    private static final int MIN = Integer.MIN_VALUE;
    private static final int MAX = Integer.MAX_VALUE;

    // Besides the ends of int: numbers that fall back into a range if they are cut to a byte or a short.
    private static final int[] TOO_SMALL_FOR_A_COORDINATE = {-51, -52, -100, -256, -65536, MIN + 50, MIN + 1, MIN};
    private static final int[] TOO_LARGE_FOR_A_COORDINATE = {51, 52, 100, 255, 256, 65536, MAX - 1, MAX};
    private static final int[] BELOW_ZERO = {-1, -2, -24, -255, -256, -65536, MIN + 1, MIN};

    private static int tests = 0;
    private static int failedTests = 0;
    private static int checks = 0;
    private static int wrong = 0;

    private static void test(int promise, String sentence, String boundary, Runnable calls) {
        int checksBefore = checks;
        int wrongBefore = wrong;
        tests++;
        try {
            calls.run();
        } catch (RuntimeException thrown) {
            wrong++;
            System.out.println("  a call has thrown " + thrown);
        }
        if (checks == checksBefore) {
            wrong++;
            System.out.println("  nothing was looked at");
        }
        if (wrong != wrongBefore) {
            failedTests++;
            System.out.println("FAILED promise " + promise + ": \"" + sentence + "\"; the case: " + boundary);
        }
    }

    private static void due(String call, int got, int want) {
        checks++;
        if (got != want) {
            wrong++;
            System.out.println("  " + call + " answered " + got + ", due is " + want);
        }
    }

    // ---- objects to begin with ----

    private static MeanGroups with(int... coordinates) {
        MeanGroups x = new MeanGroups();
        for (int i = 0; i + 1 < coordinates.length; i += 2) {
            x.add(coordinates[i], coordinates[i + 1]);
        }
        return x;
    }

    /** Points at 0, 4, 6 and 3, seeds at 0 and 6, no round made: near(1) is 3, as 3 is a tie. */
    private static MeanGroups unmoved() {
        MeanGroups x = with(0, 0, 4, 0, 6, 0, 3, 0);
        x.seed(1, 6, 0);
        return x;
    }

    /** unmoved() after a round: the groups are 0 1 1 0, the middles 3/2 and 5, and near(1) is 2. */
    private static MeanGroups moved() {
        MeanGroups x = unmoved();
        x.round();
        return x;
    }

    private static MeanGroups full() {
        MeanGroups x = new MeanGroups();
        for (int i = 0; i < 24; i++) {
            x.add(i, -i);
        }
        return x;
    }

    private static MeanGroups fullAfterARound() {
        MeanGroups x = full();
        x.seed(1, 20, -20);
        x.round();
        return x;
    }

    // ---- what can be seen of an object ----

    private static void dueGroups(MeanGroups x, int... want) {
        for (int i = 0; i < want.length; i++) {
            due("group(" + i + ")", x.group(i), want[i]);
        }
    }

    private static void dueNear(MeanGroups x, int... want) {
        for (int g = 0; g < want.length; g++) {
            due("near(" + g + ")", x.near(g), want[g]);
        }
    }

    private static void dueInNoGroup(MeanGroups x, int points) {
        for (int i = 0; i < points; i++) {
            due("group(" + i + ")", x.group(i), -1);
        }
        for (int g = 0; g < 4; g++) {
            due("size(" + g + ")", x.size(g), 0);
            due("sum(" + g + ", 2)", x.sum(g, 2), 0);
        }
    }

    private static void dueStillMoved(MeanGroups x) {
        dueGroups(x, 0, 1, 1, 0, -1);
        dueNear(x, 2, 2, -1);
        due("sum(0, 0)", x.sum(0, 0), 3);
        due("sum(1, 0)", x.sum(1, 0), 10);
        due("round()", x.round(), 0);
    }

    private static void dueSameLook(String when, MeanGroups x, MeanGroups twin) {
        for (int i = 0; i < 24; i++) {
            due("group(" + i + ") " + when, x.group(i), twin.group(i));
        }
        for (int g = 0; g < 4; g++) {
            due("size(" + g + ") " + when, x.size(g), twin.size(g));
            due("sum(" + g + ", 0) " + when, x.sum(g, 0), twin.sum(g, 0));
            due("sum(" + g + ", 1) " + when, x.sum(g, 1), twin.sum(g, 1));
            due("near(" + g + ") " + when, x.near(g), twin.near(g));
        }
    }

    /** Points, groups, middles, seeds and K are as those of the twin; this takes 170 calls of each. */
    private static void dueSame(MeanGroups x, MeanGroups twin) {
        dueSameLook("now", x, twin);
        due("round()", x.round(), twin.round());
        dueSameLook("after a round", x, twin);
        x.groups(4);
        twin.groups(4);
        dueSameLook("with four groups", x, twin);
        due("settle() with four groups", x.settle(), twin.settle());
        dueSameLook("settled with four groups", x, twin);
        due("add(1, 1)", x.add(1, 1), twin.add(1, 1));
        due("drop(0)", x.drop(0), twin.drop(0));
    }

    // ---- What it is ----

    private static void whatItIs() {
        String calls = "An object is used for at most 512 calls after it has been made";

        test(2, calls, "add is the 512th", () -> due("add(5, 0)", usedFor(511).add(5, 0), 3));
        test(3, calls, "drop is the 512th", () -> due("drop(0)", usedFor(511).drop(0), 1));
        test(4, calls, "seed is the 512th", () -> due("seed(3, 50, 50)", usedFor(511).seed(3, 50, 50), 0));
        test(5, calls, "groups is the 511th, near the 512th", () -> {
            MeanGroups x = usedFor(510);
            x.groups(4);
            due("near(3)", x.near(3), 1);
        });
        test(6, calls, "reset is the 511th, group the 512th", () -> {
            MeanGroups x = usedFor(510);
            x.reset();
            due("group(1)", x.group(1), -1);
        });
        test(7, calls, "round is the 512th", () -> due("round()", usedFor(511).round(), 0));
        test(8, calls, "settle is the 512th", () -> due("settle()", usedFor(511).settle(), 2));
        test(9, calls, "group is the 512th", () -> due("group(1)", usedFor(511).group(1), 1));
        test(10, calls, "size is the 512th", () -> due("size(1)", usedFor(511).size(1), 1));
        test(11, calls, "sum is the 512th", () -> due("sum(1, 0)", usedFor(511).sum(1, 0), 9));
        test(12, calls, "near is the 512th", () -> due("near(1)", usedFor(511).near(1), 1));
        test(2, calls, "all of them are adds, most of them refused", () -> {
            MeanGroups x = new MeanGroups();
            for (int i = 1; i <= 512; i++) {
                due("add(3, 4) as call " + i, x.add(3, 4), i <= 24 ? i : -1);
            }
        });
        test(8, calls, "most of them settle", () -> {
            MeanGroups x = with(1, 0, 9, 0);
            x.seed(1, 10, 0);
            for (int i = 4; i <= 512; i++) {
                due("settle() as call " + i, x.settle(), 2);
            }
        });
    }

    /** Points at 1 and 9, each in a group of its own, after so many calls. */
    private static MeanGroups usedFor(int calls) {
        MeanGroups x = with(1, 0, 9, 0);
        x.seed(1, 10, 0);
        due("round() as call 4", x.round(), 2);
        for (int i = 5; i <= calls; i++) {
            due("round() as call " + i, x.round(), 0);
        }
        return x;
    }

    // ---- Terms ----

    private static void termsOfPoints() {
        String points = "POINTS are numbered from 0; at most 24 are held; a point is (x, y), two ints from -50 to 50.";

        test(9, points, "the first point has the number 0, the second 1", () -> {
            MeanGroups x = with(9, 0, 1, 0);
            x.seed(1, 10, 0);
            x.round();
            due("group(0)", x.group(0), 1);
            due("group(1)", x.group(1), 0);
            due("group(2)", x.group(2), -1);
        });
        test(3, points, "number 0 can be taken out, and is the first", () -> {
            MeanGroups x = with(7, 1, 8, 2);
            due("drop(0)", x.drop(0), 1);
            x.round();
            due("sum(0, 0)", x.sum(0, 0), 8);
        });
        test(9, points, "the last of 24 has the number 23", () -> {
            MeanGroups x = full();
            x.round();
            due("group(23)", x.group(23), 0);
            due("group(24)", x.group(24), -1);
        });
        test(2, points, "the 24th is held, a 25th is not", () -> {
            MeanGroups x = full();
            due("round()", x.round(), 24);
            due("add(0, 0)", x.add(0, 0), -1);
            due("size(0)", x.size(0), 24);
        });
        test(2, points, "all of 24 can be the same point", () -> {
            MeanGroups x = new MeanGroups();
            for (int i = 1; i <= 24; i++) {
                due("add(-3, 5)", x.add(-3, 5), i);
            }
            x.round();
            due("sum(0, 0)", x.sum(0, 0), -72);
            due("sum(0, 1)", x.sum(0, 1), 120);
        });
        test(2, points, "-50 and 50 are held as they are, in x and in y", () -> {
            int[][] edges = {{-50, 0}, {50, 0}, {0, -50}, {0, 50}, {-50, -50}, {-50, 50}, {50, -50}, {50, 50}};
            for (int[] e : edges) {
                MeanGroups x = new MeanGroups();
                due("add(" + e[0] + ", " + e[1] + ")", x.add(e[0], e[1]), 1);
                x.round();
                due("sum(0, 0)", x.sum(0, 0), e[0]);
                due("sum(0, 1)", x.sum(0, 1), e[1]);
            }
        });
    }

    private static void termsOfGroups() {
        String groups = "There are K GROUPS, 0 to K-1 (K from 1 to 4, 2 at the start).";

        for (int k = 1; k <= 4; k++) {
            int count = k;
            test(12, groups, "with K " + k + " the last group is " + (k - 1), () -> {
                MeanGroups x = with(0, 0);
                x.groups(count);
                due("near(-1)", x.near(-1), -1);
                for (int g = 0; g <= 5; g++) {
                    due("near(" + g + ")", x.near(g), g < count ? 1 : -1);
                }
            });
            test(7, groups, "with K " + k + " a point is put into one of them only", () -> {
                // A seed for each of the four; the fifth point is nearest to the last group there is.
                MeanGroups x = with(0, 0, 10, 0, 20, 0, 30, 0, 50, 0);
                for (int g = 0; g < 4; g++) {
                    x.seed(g, 10 * g, 0);
                }
                x.groups(count);
                due("round()", x.round(), 5);
                for (int i = 0; i < 5; i++) {
                    due("group(" + i + ")", x.group(i), Math.min(i, count - 1));
                }
                due("size of the last", x.size(count - 1), 6 - count);
            });
        }
        test(1, groups, "2 at the start", () -> {
            MeanGroups x = with(0, 0);
            dueNear(x, 1, 1, -1, -1);
        });
    }

    private static void termsOfMiddles() {
        String middles = "Every group has a MIDDLE, a point of the plane whose coordinates need not be whole; "
            + "at the start, and after every reset, the middle of group g is (SEED x, SEED y) of the group: "
            + "seeds are ints from -50 to 50, at the start (0, 0) for all.";

        // The middles become 7/3 and 29/6: 3 is nearer to the first, 4 to the second. With 2 and 4 in
        // their place 3 would be a tie, with 3 and 5 it would be 4.
        int[] fractions = {2, 2, 3, 4, 5, 5, 5, 5, 5};
        test(7, middles, "not whole, above 0, in x", () -> dueThirdIsNearTheFirst(fractions, 1, 0));
        test(7, middles, "not whole, below 0, in x", () -> dueThirdIsNearTheFirst(fractions, -1, 0));
        test(7, middles, "not whole, above 0, in y", () -> dueThirdIsNearTheFirst(fractions, 0, 1));
        test(7, middles, "not whole, below 0, in y", () -> dueThirdIsNearTheFirst(fractions, 0, -1));
        test(7, middles, "not whole: half below 0 is not cut to 0's side", () -> {
            // The middles become 1 and -3/2: 0 is nearer to 1. At -1 it would be a tie.
            MeanGroups x = with(-1, 0, -2, 0, 1, 0, 2, 0, 0, 0);
            x.seed(0, 2, 0);
            x.seed(1, -2, 0);
            x.round();
            dueNear(x, 3, 2);
        });
        test(7, middles, "not whole: half above 0 is not made whole on either side", () -> {
            // The middles become 3/2 and 4: 3 is nearer to 4. At 2 in place of 3/2 it would be a tie.
            MeanGroups x = with(1, 0, 2, 0, 3, 0, 4, 0, 5, 0);
            x.seed(1, 4, 0);
            x.round();
            dueGroups(x, 0, 0, 1, 1, 1);
            dueNear(x, 2, 3);
            // The middles become 1/2 and 3: 2 is nearer to 3. At 1 in place of 1/2 it would be a tie.
            MeanGroups y = with(0, 0, 1, 0, 2, 0, 3, 0, 4, 0);
            y.seed(1, 3, 0);
            y.round();
            dueGroups(y, 0, 0, 1, 1, 1);
            dueNear(y, 2, 3);
        });
        test(1, middles, "at the start the middles are the seeds, before any round", () -> {
            MeanGroups x = with(0, 0, 7, 7);
            dueNear(x, 2, 2);
        });
        test(6, middles, "after every reset, the first and the later ones", () -> {
            MeanGroups x = unmoved();
            for (int i = 0; i < 5; i++) {
                x.round();
                dueNear(x, 2, 2);
                x.reset();
                dueNear(x, 2, 3);
            }
        });
        test(4, middles, "seeds at -50 and 50 are middles there, in x and in y", () -> {
            MeanGroups x = with(-50, -50, 50, -50, -50, 50, 50, 50, 0, 0);
            x.groups(4);
            x.seed(0, 50, 50);
            x.seed(1, -50, 50);
            x.seed(2, 50, -50);
            x.seed(3, -50, -50);
            dueNear(x, 2, 2, 2, 2);
            x.round();
            dueGroups(x, 3, 2, 1, 0, 0);
        });
        test(1, middles, "(0, 0) for all four", () -> {
            // Each group has one point at (0, 0) to gain from a group 0 that is elsewhere.
            for (int g = 1; g < 4; g++) {
                MeanGroups x = with(0, 0, 1, 1);
                x.groups(4);
                x.seed(0, 50, 50);
                due("near(" + g + ")", x.near(g), 2);
                x.seed(g, 1, 1);
                due("near(" + g + ") with its seed at (1, 1)", x.near(g), 1);
            }
        });
    }

    /** Points on a line from (0, 0) in the direction, seeds at 2 and 5 on it; see where it is called. */
    private static void dueThirdIsNearTheFirst(int[] along, int dx, int dy) {
        MeanGroups x = new MeanGroups();
        for (int a : along) {
            x.add(a * dx, a * dy);
        }
        x.seed(0, 2 * dx, 2 * dy);
        x.seed(1, 5 * dx, 5 * dy);
        due("round()", x.round(), 9);
        dueGroups(x, 0, 0, 0, 1, 1);
        dueNear(x, 3, 6);
        due("round()", x.round(), 0);
    }

    private static void termsOfARound() {
        String nearest = "A ROUND: every point is put into the group whose middle is nearest to it (by the sum of "
            + "the squares of the differences in x and y), of several equally near ones into the one with the "
            + "least number.";
        String mean = "Then the middle of every group that has points becomes the mean of its points (the sum of "
            + "their x, divided by their number; in the same way y); the middle of a group without points stays "
            + "as it is.";

        test(7, nearest, "two equally near", () -> dueTie(0, 5, 0, 0, 5, 40, 40, 40, 40));
        test(7, nearest, "three equally near", () -> dueTie(0, 5, 0, 3, 4, -4, -3, 40, 40));
        test(7, nearest, "all four equally near", () -> dueTie(0, -5, 0, 3, 4, -4, -3, 0, 5));
        test(7, nearest, "all four at the same place", () -> dueTie(0, 7, 7, 7, 7, 7, 7, 7, 7));
        test(7, nearest, "two equally near that are not the first", () -> dueTie(1, 40, 40, 5, 0, 40, 40, -3, 4));
        test(7, nearest, "the last two equally near", () -> dueTie(2, 40, 40, 40, 40, 0, 5, 4, 3));
        test(7, nearest, "two equally near, one nearer behind them", () -> dueTie(3, 5, 0, 0, 5, 4, 3, 3, 3));
        test(7, nearest, "two equally near, one nearer before them", () -> dueTie(0, 0, 4, 0, 5, 4, 3, 5, 0));
        test(7, nearest, "squares: not the sum, not the greater one of the differences", () -> {
            // 3 and 3 give 18, 4 and 1 give 17, though 3 + 3 > 4 + 1 and 3 < 4; 0 and 5 give 25.
            dueTie(1, 3, 3, 4, 1, 0, 5, 40, 40);
            // 4 and 4 give 32, 0 and 6 give 36, though 4 + 4 > 0 + 6.
            dueTie(1, 0, 6, 4, 4, 40, 40, 40, 40);
        });
        test(7, nearest, "equally near to means that are not whole, of 3 and of 6 points", () -> {
            // The middles become (-31/3, 0), (31/3, 0) and (0, 27). The point (0, 4), in group 2 till
            // then, is equally near to the first two.
            MeanGroups x = with(-10, 0, -10, 0, -11, 0, 10, 0, 10, 0, 10, 0, 10, 0, 11, 0, 11, 0, 0, 4, 0, 50);
            x.groups(3);
            x.seed(0, -10, 0);
            x.seed(1, 10, 0);
            x.seed(2, 0, 9);
            x.round();
            due("group(9)", x.group(9), 2);
            dueNear(x, 4, 7, 1);
            due("round()", x.round(), 1);
            due("group(9)", x.group(9), 0);
        });
        test(7, nearest, "equally near to means that no decimal fraction tells exactly", () -> {
            // The middles become (50/3, 0), (10, 40/3) and (-20, -20): (0, 0), in group 2 till then, has the
            // distance 2500/9 to each of the first two.
            MeanGroups x = with(16, 0, 17, 0, 17, 0, 10, 13, 10, 13, 10, 13, 10, 13, 10, 14, 10, 14, 0, 0, -40, -40);
            x.groups(3);
            x.seed(0, 17, 0);
            x.seed(1, 10, 13);
            x.seed(2, -5, -5);
            x.round();
            due("group(9)", x.group(9), 2);
            dueNear(x, 4, 7, 1);
            due("round()", x.round(), 1);
            due("group(9)", x.group(9), 0);
        });
        test(7, nearest, "in a tie a point also leaves its group for one with a lesser number", () -> {
            // 2 is in group 1 after the first round; the middles are 0 and 4 then.
            MeanGroups x = with(0, 0, 2, 0, 4, 0, 6, 0);
            x.seed(1, 2, 0);
            x.round();
            dueGroups(x, 0, 1, 1, 1);
            due("round()", x.round(), 1);
            dueGroups(x, 0, 0, 1, 1);
        });
        test(7, nearest, "the greatest distance there is, with many points on both sides", () -> {
            MeanGroups x = new MeanGroups();
            for (int i = 0; i < 12; i++) {
                x.add(-50, -50);
                x.add(50, 50);
            }
            x.seed(0, 50, 50);
            x.seed(1, -50, -50);
            due("round()", x.round(), 24);
            dueNear(x, 12, 12);
            due("round()", x.round(), 0);
            due("sum(0, 0)", x.sum(0, 0), 600);
            due("sum(1, 1)", x.sum(1, 1), -600);
        });
        test(7, nearest, "distances that pass an int, the emptied group before the great one", () -> dueFar(0, 1));
        test(7, nearest, "distances that pass an int, the emptied group behind the great one", () -> dueFar(1, 0));
        test(7, nearest, "no point", () -> {
            MeanGroups x = new MeanGroups();
            due("round()", x.round(), 0);
            due("size(0)", x.size(0), 0);
            dueNear(x, 0, 0);
        });
        test(7, mean, "a group of one point has its middle there", () -> {
            // Groups 0 and 1 leave their seeds for (-10, 0) and (10, 0), and group 2 goes to (0, 27). Only
            // then is (0, 4) equally near to the first two.
            MeanGroups x = with(-10, 0, 10, 0, 0, 4, 0, 50);
            x.groups(3);
            x.seed(0, -7, 0);
            x.seed(1, 12, 0);
            x.seed(2, 0, 9);
            x.round();
            dueGroups(x, 0, 1, 2, 2);
            dueNear(x, 2, 2, 1);
            due("round()", x.round(), 1);
            dueGroups(x, 0, 1, 0, 2);
        });
        test(7, mean, "a group that never had a point stays at its seed", () -> {
            // All are in group 0, as both seeds are (0, 0); its middle becomes 3, and group 1 draws 0.
            MeanGroups x = with(0, 0, 2, 0, 4, 0, 6, 0);
            due("round()", x.round(), 4);
            dueGroups(x, 0, 0, 0, 0);
            dueNear(x, 3, 1);
            due("round()", x.round(), 1);
            dueGroups(x, 1, 0, 0, 0);
        });
        test(7, mean, "a group that never had a point stays at a seed that is not (0, 0)", () -> {
            // Group 0 starts at (-9, 0), and takes both; its middle becomes (0, 0). Group 1 is at (0, 21).
            MeanGroups x = with(-9, 0, 9, 0);
            x.seed(0, -9, 0);
            x.seed(1, 0, 21);
            due("round()", x.round(), 2);
            dueGroups(x, 0, 0);
            dueNear(x, 2, 0);
            due("round()", x.round(), 0);
            dueNear(x, 2, 0);
        });
        test(7, mean, "a group that loses its last point stays where it was, and takes one from there", () -> {
            // Group 2 gets (-5, 6) and (-11, -6), and its middle (-8, 0); then it loses both. In the third
            // round (-6, -4) is nearer to that middle than to (-9, -22/3), the one of group 0.
            MeanGroups x = losesAndTakes();
            due("round(), the first", x.round(), 4);
            dueGroups(x, 0, 2, 2, 0);
            due("round(), the second", x.round(), 2);
            dueGroups(x, 0, 1, 0, 0);
            due("size(2)", x.size(2), 0);
            dueNear(x, 2, 1, 1);
            due("round(), the third", x.round(), 1);
            dueGroups(x, 2, 1, 0, 0);
            due("round(), the fourth", x.round(), 0);
        });
        test(7, mean, "a group that loses its last point stays at a middle that is not whole", () -> {
            // Group 2 gets (9, 0), (9, -2) and (-6, 3), and its middle (4, 1/3); then it loses all. In the
            // third round (6, 2) is nearer to that middle than to (8, 0); to (4, 0) it would not be.
            MeanGroups x = with(6, 2, 9, 0, 9, -2, -8, -5, -6, 3);
            x.groups(3);
            x.seed(0, -6, -4);
            x.seed(1, 0, 7);
            x.seed(2, -2, 0);
            due("round(), the first", x.round(), 5);
            dueGroups(x, 1, 2, 2, 0, 2);
            due("round(), the second", x.round(), 3);
            dueGroups(x, 1, 1, 1, 0, 0);
            due("size(2)", x.size(2), 0);
            dueNear(x, 2, 2, 1);
            due("round(), the third", x.round(), 1);
            dueGroups(x, 2, 1, 1, 0, 0);
            due("round(), the fourth", x.round(), 0);
        });
        test(8, mean, "a group that loses its last point, in settling", () -> {
            MeanGroups x = losesAndTakes();
            due("settle()", x.settle(), 4);
            dueGroups(x, 2, 1, 0, 0);
        });
        test(7, mean, "a group that loses its last point does not go back to its seed", () -> {
            // Group 0 is left at (-2, 5); at its seed (-11, 1) it would take point 1 again.
            MeanGroups x = with(10, 9, -11, 0, -10, -4, 7, 10);
            x.groups(3);
            x.seed(0, -11, 1);
            x.seed(1, -9, -8);
            x.seed(2, -8, -4);
            due("round(), the first", x.round(), 4);
            dueGroups(x, 2, 0, 2, 0);
            due("round(), the second", x.round(), 3);
            dueGroups(x, 2, 1, 1, 2);
            due("size(0)", x.size(0), 0);
            due("near(0)", x.near(0), 0);
            due("round(), the third", x.round(), 0);
        });
    }

    /** A point at (0, 0) and four seeds: the group it is put into. */
    private static void dueTie(int want, int... seeds) {
        MeanGroups x = with(0, 0);
        x.groups(4);
        for (int g = 0; g < 4; g++) {
            x.seed(g, seeds[2 * g], seeds[2 * g + 1]);
        }
        x.round();
        due("group(0)", x.group(0), want);
        due("size(" + want + ")", x.size(want), 1);
    }

    /**
     * The first round puts 23 points into one group, the second takes all of them out again and 19 points
     * are in the great one. The middles are (-986/23, -2), (-914/19, 99/19) and (-122/5, -136/5) then, and
     * point 0 has the distances 11124.8, 11455.5 and 11190.4 to them. Whoever multiplies by 23, 23, 19 and
     * 19 to be rid of the fractions passes 2147483647 with the second, but not with the first.
     */
    private static void dueFar(int emptied, int great) {
        MeanGroups x = with(50, 48, -43, -46, -43, -46, -43, -46, -43, -46, -50, 9);
        for (int i = 0; i < 18; i++) {
            x.add(-48, 5);
        }
        x.groups(3);
        x.seed(emptied, -18, -24);
        x.seed(great, -50, 50);
        x.seed(2, -10, -32);
        due("round(), the first", x.round(), 24);
        due("size(" + emptied + ") after a round", x.size(emptied), 23);
        due("size(" + great + ") after a round", x.size(great), 1);
        due("round(), the second", x.round(), 23);
        due("size(" + emptied + ") after two rounds", x.size(emptied), 0);
        due("size(" + great + ") after two rounds", x.size(great), 19);
        due("group(0) after two rounds", x.group(0), 2);
        due("near(" + emptied + ")", x.near(emptied), 1);
        due("near(" + great + ")", x.near(great), 19);
        due("near(2)", x.near(2), 4);
        due("round(), the third", x.round(), 1);
        due("group(0) after three rounds", x.group(0), emptied);
    }

    private static MeanGroups losesAndTakes() {
        MeanGroups x = with(-6, -4, -5, 6, -11, -6, -10, -12);
        x.groups(3);
        x.seed(0, 10, -3);
        x.seed(1, -2, 12);
        x.seed(2, -5, 12);
        return x;
    }

    private static void termsOfSettling() {
        String settling = "SETTLING means: rounds are made as long as a round puts at least one point into another "
            + "group than the round before did (the first round always counts as one that did), but at most 40.";
        String none = "Before the first round after points, seeds or K have changed, or after a reset, all points "
            + "are in no group.";

        test(8, settling, "one point that moves is enough for another round", () -> {
            MeanGroups x = with(0, 0, 2, 0, 4, 0, 6, 0);
            x.seed(1, 2, 0);
            due("settle()", x.settle(), 3);
            dueGroups(x, 0, 0, 1, 1);
        });
        test(8, settling, "the first round counts, with one point and one group", () -> {
            MeanGroups x = with(0, 0);
            x.groups(1);
            due("settle()", x.settle(), 2);
        });
        test(8, settling, "the first round counts, if all points are in those groups already", () -> {
            MeanGroups x = with(1, 0, 9, 0);
            x.seed(1, 10, 0);
            due("settle()", x.settle(), 2);
            due("settle() again", x.settle(), 2);
            x.round();
            due("settle() after round()", x.settle(), 2);
            x.reset();
            x.round();
            due("settle() after reset() and round()", x.settle(), 2);
        });
        test(8, settling, "39 rounds are needed", () -> dueRounds(needs39(), 39));
        test(8, settling, "40 rounds are needed", () -> dueRounds(needs40(), 40));
        test(8, settling, "41 rounds are needed", () -> dueRounds(needs41(), 41));
        test(8, settling, "61 rounds are needed", () -> dueRounds(needs61(), 61));
        test(7, settling, "at most 40 is not for round", () -> {
            MeanGroups x = needs61();
            for (int i = 1; i <= 60; i++) {
                int put = x.round();
                due("round() " + i + " moves a point", put > 0 ? 1 : 0, 1);
            }
            due("round() 61", x.round(), 0);
        });

        test(2, none, "after add", () -> {
            MeanGroups x = moved();
            x.add(9, 9);
            dueInNoGroup(x, 5);
            due("round()", x.round(), 5);
        });
        test(3, none, "after drop", () -> {
            MeanGroups x = moved();
            x.drop(3);
            dueInNoGroup(x, 4);
            due("round()", x.round(), 3);
        });
        test(4, none, "after seed", () -> {
            MeanGroups x = moved();
            x.seed(0, 1, 1);
            dueInNoGroup(x, 4);
            due("round()", x.round(), 4);
        });
        test(5, none, "after groups", () -> {
            MeanGroups x = moved();
            x.groups(3);
            dueInNoGroup(x, 4);
            due("round()", x.round(), 4);
        });
        test(6, none, "after reset", () -> {
            MeanGroups x = moved();
            x.reset();
            dueInNoGroup(x, 4);
            due("round()", x.round(), 4);
        });
        test(8, none, "after settle and a change", () -> {
            MeanGroups x = unmoved();
            x.settle();
            x.add(9, 9);
            dueInNoGroup(x, 5);
            x.settle();
            x.drop(0);
            dueInNoGroup(x, 5);
            x.settle();
            x.reset();
            dueInNoGroup(x, 5);
            due("round()", x.round(), 4);
        });
    }

    /** 24 points that need very many rounds; two of them, and the seeds, decide how many. */
    private static MeanGroups slow(int x4, int y4, int x6, int y6, int... seeds) {
        MeanGroups x = with(11, 2, -2, 10, -8, 35, -5, 7, x4, y4, -50, 39, x6, y6, 30, -9, -19, -41, 10, -1,
            -22, 42, 5, 32, 6, -17, 10, 8, -17, -2, 48, -36, -4, -2, -14, -48, -42, -38, -4, -1, -24, 47,
            -10, 31, -1, -7, 35, -18);
        x.groups(4);
        for (int g = 0; g < 4; g++) {
            x.seed(g, seeds[2 * g], seeds[2 * g + 1]);
        }
        return x;
    }

    private static MeanGroups needs39() {
        return slow(-17, 17, 30, 0, 25, 43, 21, 33, 26, 47, -25, -4);
    }

    private static MeanGroups needs40() {
        return slow(-19, 19, 33, -2, 25, 43, 21, 33, 36, 38, -24, -7);
    }

    private static MeanGroups needs41() {
        return slow(-17, 17, 35, -2, 25, 43, 21, 33, 26, 47, -31, -15);
    }

    private static MeanGroups needs61() {
        return slow(-17, 17, 33, -2, 25, 43, 21, 33, 26, 47, -24, -7);
    }

    /** Counts the rounds one by one, then lets settle make them; it leaves off at 40. */
    private static void dueRounds(MeanGroups x, int needed) {
        due("rounds until one moves no point", roundsUntilStill(x), needed);
        due("settle()", x.settle(), Math.min(needed, 40));
        due("rounds after settle()", roundsUntilStill(x), Math.max(needed - 40, 1));
    }

    private static int roundsUntilStill(MeanGroups x) {
        int made = 1;
        while (x.round() != 0 && made < 100) {
            made++;
        }
        return made;
    }

    // ---- the promises ----

    private static void newObject() {
        String sentence = "No point; K is 2; all seeds are (0, 0).";

        test(1, sentence, "no point", () -> {
            MeanGroups x = new MeanGroups();
            dueNear(x, 0, 0);
            due("group(0)", x.group(0), -1);
            due("drop(0)", x.drop(0), -1);
            due("round()", x.round(), 0);
            due("size(0)", x.size(0), 0);
            due("sum(0, 2)", x.sum(0, 2), 0);
            due("add(1, 1)", x.add(1, 1), 1);
        });
        test(1, sentence, "no point of another object", () -> {
            MeanGroups first = full();
            first.seed(0, 9, 9);
            first.groups(4);
            MeanGroups x = new MeanGroups();
            dueNear(x, 0, 0, -1);
            due("add(1, 1)", x.add(1, 1), 1);
            dueNear(x, 1, 1, -1);
            due("near(3) of the first", first.near(3), 24);
        });
        test(1, sentence, "K is neither 1 nor 3", () -> {
            MeanGroups x = new MeanGroups();
            due("near(1)", x.near(1), 0);
            due("near(2)", x.near(2), -1);
            // Were K 1, no point could leave group 0.
            MeanGroups y = with(0, 0, 2, 0, 4, 0, 6, 0);
            due("settle()", y.settle(), 3);
            due("size(0)", y.size(0), 3);
            due("size(1)", y.size(1), 1);
        });
        test(1, sentence, "all seeds, also those of groups 2 and 3", () -> {
            MeanGroups x = with(50, 50, -50, 50, 50, -50, -50, -50, 0, 0);
            x.groups(4);
            dueNear(x, 5, 5, 5, 5);
        });
    }

    private static void add() {
        String answers = "Answers the number of points then; -1, and changes nothing, if a coordinate is out of its "
            + "range or there are 24.";
        String back = "Middles go back to the seeds.";

        test(2, answers, "x too small", () -> {
            for (int v : TOO_SMALL_FOR_A_COORDINATE) {
                dueRefusedAdd(moved(), moved(), v, 0);
            }
        });
        test(2, answers, "x too large", () -> {
            for (int v : TOO_LARGE_FOR_A_COORDINATE) {
                dueRefusedAdd(moved(), moved(), v, 0);
            }
        });
        test(2, answers, "y too small", () -> {
            for (int v : TOO_SMALL_FOR_A_COORDINATE) {
                dueRefusedAdd(moved(), moved(), 0, v);
            }
        });
        test(2, answers, "y too large", () -> {
            for (int v : TOO_LARGE_FOR_A_COORDINATE) {
                dueRefusedAdd(moved(), moved(), 0, v);
            }
        });
        test(2, answers, "x and y out of their range", () -> {
            int[][] both = {{51, 51}, {-51, -51}, {51, -51}, {-51, 51}, {MIN, MAX}, {MAX, MAX}, {MIN, MIN}};
            for (int[] p : both) {
                dueRefusedAdd(moved(), moved(), p[0], p[1]);
            }
        });
        test(2, answers, "out of its range, as the first point", () -> {
            MeanGroups x = new MeanGroups();
            due("add(51, 0)", x.add(51, 0), -1);
            due("add(0, -51)", x.add(0, -51), -1);
            dueNear(x, 0, 0);
            due("drop(0)", x.drop(0), -1);
            due("add(0, 0)", x.add(0, 0), 1);
        });
        test(2, answers, "at the ends of the range", () -> {
            MeanGroups x = new MeanGroups();
            due("add(-50, 0)", x.add(-50, 0), 1);
            due("add(50, 0)", x.add(50, 0), 2);
            due("add(0, -50)", x.add(0, -50), 3);
            due("add(0, 50)", x.add(0, 50), 4);
            due("add(-50, 50)", x.add(-50, 50), 5);
            due("add(50, -50)", x.add(50, -50), 6);
        });
        test(2, answers, "from no point to 24", () -> {
            MeanGroups x = new MeanGroups();
            for (int i = 1; i <= 24; i++) {
                due("add(" + i + ", 0)", x.add(i, 0), i);
                due("near(0)", x.near(0), i);
            }
        });
        test(2, answers, "there are 24", () -> {
            dueRefusedAdd(fullAfterARound(), fullAfterARound(), 0, 0);
            dueRefusedAdd(fullAfterARound(), fullAfterARound(), 50, -50);
            MeanGroups x = full();
            for (int i = 0; i < 30; i++) {
                due("add(0, 0)", x.add(0, 0), -1);
            }
            due("near(0)", x.near(0), 24);
        });
        test(2, answers, "there are 24, and a coordinate is out of its range", () -> {
            dueRefusedAdd(fullAfterARound(), fullAfterARound(), 51, 0);
            dueRefusedAdd(fullAfterARound(), fullAfterARound(), 0, MIN);
        });
        test(2, answers, "there were 24, and one was taken out", () -> {
            MeanGroups x = full();
            due("add(9, 9)", x.add(9, 9), -1);
            due("drop(23)", x.drop(23), 23);
            due("add(9, 9)", x.add(9, 9), 24);
            due("add(9, 9)", x.add(9, 9), -1);
        });
        test(2, answers, "changes nothing: groups and middles stay", () -> {
            MeanGroups x = moved();
            due("add(51, 0)", x.add(51, 0), -1);
            due("add(0, 51)", x.add(0, 51), -1);
            dueStillMoved(x);
        });
        test(2, answers, "changes nothing: groups and middles stay when there are 24", () -> {
            // Seeds at 0 and 20; 0 to 10 are in group 0 and 11 to 23 in group 1; 5 and 17 are the middles.
            MeanGroups x = fullAfterARound();
            due("add(0, 0)", x.add(0, 0), -1);
            due("size(0)", x.size(0), 11);
            due("size(1)", x.size(1), 13);
            dueNear(x, 12, 13);
            due("round()", x.round(), 1);
        });
        test(2, back, "after a round", () -> {
            MeanGroups x = moved();
            dueNear(x, 2, 2);
            due("add(0, 1)", x.add(0, 1), 5);
            dueNear(x, 3, 3);
            MeanGroups twin = unmoved();
            twin.add(0, 1);
            dueSame(x, twin);
        });
        test(2, back, "after settling", () -> {
            MeanGroups x = unmoved();
            x.settle();
            x.add(0, 1);
            MeanGroups twin = unmoved();
            twin.add(0, 1);
            dueNear(x, 3, 3);
            dueSame(x, twin);
        });
        test(2, back, "with the 24th point", () -> {
            MeanGroups x = fullAfterARound();
            x.drop(23);
            x.round();
            x.add(23, -23);
            MeanGroups twin = full();
            twin.seed(1, 20, -20);
            dueNear(x, 11, 14);
            dueSame(x, twin);
        });
    }

    private static void dueRefusedAdd(MeanGroups x, MeanGroups twin, int px, int py) {
        due("add(" + px + ", " + py + ")", x.add(px, py), -1);
        dueSame(x, twin);
    }

    private static void drop() {
        String takes = "Takes the point with the number out; the ones behind it move one place back.";
        String answers = "Answers the number of points then; -1 if there is none.";
        String back = "Middles go back to the seeds.";

        test(3, takes, "the first of several", () -> dueLeft(0, 1, 2, 3, 4));
        test(3, takes, "one between others", () -> dueLeft(2, 0, 1, 3, 4));
        test(3, takes, "the last of several", () -> dueLeft(4, 0, 1, 2, 3));
        test(3, takes, "the only one", () -> {
            MeanGroups x = with(7, 7);
            due("drop(0)", x.drop(0), 0);
            due("round()", x.round(), 0);
            dueNear(x, 0, 0);
            due("group(0)", x.group(0), -1);
        });
        test(3, takes, "the first of 24", () -> {
            MeanGroups x = full();
            due("drop(0)", x.drop(0), 23);
            dueGroupsByOne(x, 1, 23);
        });
        test(3, takes, "the last of 24", () -> {
            MeanGroups x = full();
            due("drop(23)", x.drop(23), 23);
            dueGroupsByOne(x, 0, 22);
        });
        test(3, takes, "nothing of it is left behind the last", () -> {
            MeanGroups x = with(1, 0, 2, 0, 3, 0);
            x.round();
            x.drop(0);
            x.round();
            dueGroups(x, 0, 0, -1);
            due("sum(0, 0)", x.sum(0, 0), 5);
        });
        test(3, takes, "only one of several that are the same", () -> {
            MeanGroups x = with(4, 4, 4, 4, 4, 4);
            due("drop(1)", x.drop(1), 2);
            x.round();
            due("sum(0, 0)", x.sum(0, 0), 8);
        });
        test(3, answers, "from 24 to none", () -> {
            MeanGroups x = full();
            for (int left = 23; left >= 0; left--) {
                due("drop(0)", x.drop(0), left);
            }
            due("drop(0)", x.drop(0), -1);
            due("add(1, 1)", x.add(1, 1), 1);
        });
        test(3, answers, "a number below 0", () -> {
            for (int number : BELOW_ZERO) {
                dueRefusedDrop(moved(), moved(), number);
            }
        });
        test(3, answers, "the number behind the last, and greater ones", () -> {
            int[] behind = {4, 5, 23, 24, 25, 255, 256, 65536, MAX - 1, MAX};
            for (int number : behind) {
                dueRefusedDrop(moved(), moved(), number);
            }
        });
        test(3, answers, "a number out of the range when there are 24", () -> {
            int[] outside = {-1, 24, 25, 256, MIN, MAX};
            for (int number : outside) {
                dueRefusedDrop(fullAfterARound(), fullAfterARound(), number);
            }
        });
        test(3, answers, "no points at all", () -> {
            int[] numbers = {0, 1, -1, 23, 24, MIN, MAX};
            MeanGroups x = new MeanGroups();
            for (int number : numbers) {
                due("drop(" + number + ")", x.drop(number), -1);
            }
            due("add(0, 0)", x.add(0, 0), 1);
        });
        test(3, answers, "a number that was taken out before", () -> {
            MeanGroups x = with(1, 1, 2, 2);
            due("drop(1)", x.drop(1), 1);
            due("drop(1)", x.drop(1), -1);
            due("near(0)", x.near(0), 1);
        });
        test(3, answers, "a refused drop takes nothing out; points have not changed, and stay in their groups", () -> {
            MeanGroups x = moved();
            due("drop(4)", x.drop(4), -1);
            due("drop(-1)", x.drop(-1), -1);
            dueStillMoved(x);
        });
        test(3, back, "after a round", () -> {
            MeanGroups x = moved();
            dueNear(x, 2, 2);
            due("drop(0)", x.drop(0), 3);
            dueNear(x, 1, 3);
            MeanGroups twin = unmoved();
            twin.drop(0);
            dueSame(x, twin);
        });
        test(3, back, "after settling, with the last point taken", () -> {
            MeanGroups x = unmoved();
            x.add(5, 5);
            x.settle();
            x.drop(4);
            dueNear(x, 2, 3);
            dueSame(x, unmoved());
        });
        test(3, back, "when the last one that is left is taken out", () -> {
            MeanGroups x = with(3, 0);
            x.seed(1, 6, 0);
            x.round();
            x.drop(0);
            x.add(3, 0);
            // The middle of group 0 was at 3, which is nearer than 6; at the seeds it is a tie.
            dueNear(x, 1, 1);
        });
    }

    /** Of the points (i, 10 i), i from 0 to 4, those that are left, in their order. */
    private static void dueLeft(int dropped, int... left) {
        MeanGroups x = with(0, 0, 1, 10, 2, 20, 3, 30, 4, 40);
        due("drop(" + dropped + ")", x.drop(dropped), 4);
        for (int i = 0; i < left.length; i++) {
            // Near to a seed at its own place, the point is the only one in group 0.
            x.seed(0, left[i], 10 * left[i]);
            x.seed(1, 50, -50);
            x.seed(2, left[i], 10 * left[i] - 9);
            x.seed(3, left[i], 10 * left[i] + 9);
            x.groups(4);
            x.round();
            due("group(" + i + ") with the seed at point " + left[i], x.group(i), 0);
            due("sum(0, 0)", x.sum(0, 0), left[i]);
            due("sum(0, 1)", x.sum(0, 1), 10 * left[i]);
        }
        due("group(4)", x.group(4), -1);
    }

    /** The points of full() that are left are those from the first to the last, in their order. */
    private static void dueGroupsByOne(MeanGroups x, int first, int last) {
        x.groups(1);
        x.round();
        int total = 0;
        for (int i = first; i <= last; i++) {
            total += i;
        }
        due("sum(0, 0)", x.sum(0, 0), total);
        due("sum(0, 1)", x.sum(0, 1), -total);
        x.groups(2);
        for (int i = 0; i <= last - first; i++) {
            // All before it are in group 0, it and all behind it in group 1.
            x.seed(0, first + i - 1, -(first + i - 1));
            x.seed(1, first + i, -(first + i));
            x.round();
            due("group(" + i + ")", x.group(i), 1);
            due("size(0)", x.size(0), i);
        }
        due("group(" + (last - first + 1) + ")", x.group(last - first + 1), -1);
    }

    private static void dueRefusedDrop(MeanGroups x, MeanGroups twin, int number) {
        due("drop(" + number + ")", x.drop(number), -1);
        dueSame(x, twin);
    }

    private static void seed() {
        String sets = "Sets the seed of the group (0 to 3, also one that is not below K).";
        String answers = "Answers 0; -1, and changes nothing, if group or a coordinate is out of its range.";
        String back = "Middles go back to the seeds.";

        for (int g = 0; g < 4; g++) {
            int group = g;
            test(4, sets, "group " + g + " of four", () -> {
                MeanGroups x = with(30, 0, 0, 30);
                x.groups(4);
                for (int other = 0; other < 4; other++) {
                    x.seed(other, 0, 30);
                }
                due("seed(" + group + ", 30, 0)", x.seed(group, 30, 0), 0);
                x.round();
                due("group(0)", x.group(0), group);
                due("size(" + group + ")", x.size(group), 1);
            });
            test(4, sets, "group " + g + " with K 1", () -> {
                MeanGroups x = with(-20, 7);
                x.groups(1);
                due("seed(" + group + ", -20, 7)", x.seed(group, -20, 7), 0);
                due("near(1)", x.near(1), -1);
                x.groups(4);
                x.round();
                due("group(0)", x.group(0), group);
            });
        }
        test(4, sets, "a seed stands when K falls below its group and grows again", () -> {
            MeanGroups x = with(-20, 7);
            x.groups(4);
            x.seed(3, -20, 7);
            x.groups(1);
            x.groups(4);
            x.round();
            due("group(0)", x.group(0), 3);
        });
        test(4, sets, "a group that is not below K draws no point", () -> {
            MeanGroups x = with(20, 20);
            x.seed(2, 20, 20);
            x.seed(3, 20, 20);
            x.round();
            due("group(0)", x.group(0), 0);
            due("size(2)", x.size(2), 0);
        });
        test(4, answers, "at the ends of the ranges", () -> {
            MeanGroups x = new MeanGroups();
            int[][] ends = {{-50, 0}, {50, 0}, {0, -50}, {0, 50}, {-50, 50}, {50, -50}};
            for (int[] e : ends) {
                due("seed(0, " + e[0] + ", " + e[1] + ")", x.seed(0, e[0], e[1]), 0);
                due("seed(3, " + e[0] + ", " + e[1] + ")", x.seed(3, e[0], e[1]), 0);
            }
        });
        test(4, answers, "a group below 0", () -> {
            for (int group : BELOW_ZERO) {
                dueRefusedSeed(group, 50, 50);
            }
        });
        test(4, answers, "a group above 3", () -> {
            int[] above = {4, 5, 23, 24, 255, 256, 257, 65536, MAX - 1, MAX};
            for (int group : above) {
                dueRefusedSeed(group, 50, 50);
            }
        });
        test(4, answers, "x too small", () -> {
            for (int v : TOO_SMALL_FOR_A_COORDINATE) {
                dueRefusedSeed(0, v, 9);
                dueRefusedSeed(3, v, 9);
            }
        });
        test(4, answers, "x too large", () -> {
            for (int v : TOO_LARGE_FOR_A_COORDINATE) {
                dueRefusedSeed(0, v, 9);
                dueRefusedSeed(3, v, 9);
            }
        });
        test(4, answers, "y too small", () -> {
            for (int v : TOO_SMALL_FOR_A_COORDINATE) {
                dueRefusedSeed(0, 9, v);
                dueRefusedSeed(3, 9, v);
            }
        });
        test(4, answers, "y too large", () -> {
            for (int v : TOO_LARGE_FOR_A_COORDINATE) {
                dueRefusedSeed(0, 9, v);
                dueRefusedSeed(3, 9, v);
            }
        });
        test(4, answers, "group and coordinates out of their ranges", () -> {
            dueRefusedSeed(-1, 51, -51);
            dueRefusedSeed(4, -51, 51);
            dueRefusedSeed(MAX, MIN, MAX);
        });
        test(4, answers, "changes nothing: groups, middles and seeds stay", () -> {
            MeanGroups x = moved();
            due("seed(0, 51, 0)", x.seed(0, 51, 0), -1);
            due("seed(1, 0, -51)", x.seed(1, 0, -51), -1);
            due("seed(4, 0, 0)", x.seed(4, 0, 0), -1);
            due("seed(-1, 0, 0)", x.seed(-1, 0, 0), -1);
            dueStillMoved(x);
            x.reset();
            dueNear(x, 2, 3);
        });
        test(4, answers, "refused without points, then set", () -> {
            MeanGroups x = new MeanGroups();
            due("seed(4, 1, 1)", x.seed(4, 1, 1), -1);
            due("seed(1, 51, 1)", x.seed(1, 51, 1), -1);
            due("seed(1, 1, 1)", x.seed(1, 1, 1), 0);
            x.add(1, 1);
            dueNear(x, 0, 1);
        });
        test(4, back, "after a round, for the group that is set and for the others", () -> {
            MeanGroups x = moved();
            due("seed(0, 1, 0)", x.seed(0, 1, 0), 0);
            MeanGroups twin = unmoved();
            twin.seed(0, 1, 0);
            dueSame(x, twin);
            // Now at the seeds 2 and 6, where 4 is a tie; it would be none if group 1 were left at 5.
            MeanGroups y = moved();
            due("seed(0, 2, 0)", y.seed(0, 2, 0), 0);
            dueNear(y, 3, 2);
            // And at the seeds 0 and 8, where 4 is a tie; it would be none if group 0 were left at 3/2.
            MeanGroups z = moved();
            due("seed(1, 8, 0)", z.seed(1, 8, 0), 0);
            dueNear(z, 3, 2);
        });
        test(4, back, "after a round, by the seed of a group that is not below K", () -> {
            MeanGroups x = moved();
            dueNear(x, 2, 2);
            due("seed(3, 50, 50)", x.seed(3, 50, 50), 0);
            dueNear(x, 2, 3);
            MeanGroups twin = unmoved();
            twin.seed(3, 50, 50);
            dueSame(x, twin);
        });
        test(4, back, "after settling", () -> {
            MeanGroups x = unmoved();
            x.settle();
            x.seed(2, 9, 9);
            MeanGroups twin = unmoved();
            twin.seed(2, 9, 9);
            dueNear(x, 2, 3);
            dueSame(x, twin);
        });
    }

    private static void dueRefusedSeed(int group, int sx, int sy) {
        MeanGroups x = moved();
        due("seed(" + group + ", " + sx + ", " + sy + ")", x.seed(group, sx, sy), -1);
        dueSame(x, moved());
    }

    private static void groups() {
        String sets = "Sets K; less than 1 becomes 1, more than 4 becomes 4.";
        String back = "Middles go back to the seeds.";

        for (int k = 1; k <= 4; k++) {
            int count = k;
            test(5, sets, "K " + k, () -> dueGroupCount(count, count));
        }
        test(5, sets, "less than 1", () -> {
            int[] less = {0, -1, -2, -4, -252, -256, -65535, -65536, MIN + 3, MIN + 1, MIN};
            for (int k : less) {
                dueGroupCount(k, 1);
            }
        });
        test(5, sets, "more than 4", () -> {
            int[] more = {5, 6, 8, 24, 255, 256, 257, 65536, 65538, MAX - 1, MAX};
            for (int k : more) {
                dueGroupCount(k, 4);
            }
        });
        test(5, sets, "less than 1: all points are in group 0 then", () -> {
            MeanGroups x = moved();
            x.groups(0);
            due("settle()", x.settle(), 2);
            due("size(0)", x.size(0), 4);
        });
        test(5, sets, "more than 4: groups 0 to 3 have a point each", () -> {
            MeanGroups x = with(0, 0, 10, 0, 20, 0, 30, 0, 40, 0);
            for (int g = 0; g < 4; g++) {
                x.seed(g, 10 * g, 0);
            }
            x.groups(5);
            x.round();
            dueGroups(x, 0, 1, 2, 3, 3);
            due("size(4)", x.size(4), 0);
        });
        test(5, back, "with a K that was not there before", () -> {
            MeanGroups x = moved();
            dueNear(x, 2, 2);
            x.seed(2, 50, 50);
            x.round();
            x.groups(3);
            dueNear(x, 2, 3, 0);
            MeanGroups twin = unmoved();
            twin.seed(2, 50, 50);
            twin.groups(3);
            dueSame(x, twin);
        });
        test(5, back, "with a K that is less than before", () -> {
            MeanGroups x = unmoved();
            x.seed(2, 50, 50);
            x.groups(3);
            x.round();
            dueNear(x, 2, 2, 0);
            x.groups(2);
            dueNear(x, 2, 3, -1);
        });
        test(5, back, "after a K that is out of its range", () -> {
            MeanGroups x = moved();
            x.groups(0);
            x.groups(2);
            dueSame(x, unmoved());
            MeanGroups y = moved();
            y.groups(MAX);
            y.groups(2);
            dueSame(y, unmoved());
        });
    }

    private static void dueGroupCount(int asked, int count) {
        // The K before is once the least and once the greatest, so that a call that does nothing shows.
        for (int before = 1; before <= 4; before += 3) {
            MeanGroups x = with(0, 0);
            x.groups(before);
            x.groups(asked);
            for (int g = 0; g < 6; g++) {
                due("near(" + g + ") after groups(" + asked + ")", x.near(g), g < count ? 1 : -1);
            }
        }
    }

    private static void reset() {
        String sentence = "Middles go back to the seeds; all points are in no group.";

        test(6, sentence, "after a round", () -> {
            MeanGroups x = moved();
            dueNear(x, 2, 2);
            x.reset();
            dueInNoGroup(x, 4);
            dueNear(x, 2, 3);
            dueSame(x, unmoved());
        });
        test(6, sentence, "after settling at the limit of 40 rounds", () -> {
            MeanGroups x = needs61();
            x.settle();
            x.reset();
            dueInNoGroup(x, 24);
            dueSame(x, needs61());
        });
        test(6, sentence, "without points", () -> {
            MeanGroups x = new MeanGroups();
            x.reset();
            dueNear(x, 0, 0, -1);
            due("round()", x.round(), 0);
            due("add(1, 1)", x.add(1, 1), 1);
        });
        test(6, sentence, "before any round, and twice", () -> {
            MeanGroups x = unmoved();
            x.reset();
            x.reset();
            dueSame(x, unmoved());
        });
        test(6, sentence, "points, seeds and K stay", () -> {
            MeanGroups x = full();
            x.groups(4);
            x.seed(3, 23, -23);
            x.round();
            x.reset();
            due("add(0, 0)", x.add(0, 0), -1);
            due("near(3)", x.near(3), 12);
            due("round()", x.round(), 24);
            due("group(23)", x.group(23), 3);
        });
    }

    private static void round() {
        String answers = "Answers how many points were put into another group than before (from no group counts).";

        test(7, answers, "from no group: all of them", () -> {
            due("round() with 1 point", with(5, 5).round(), 1);
            due("round() with 4 points", unmoved().round(), 4);
            due("round() with 24 points", full().round(), 24);
        });
        test(7, answers, "from no group counts again after a reset", () -> {
            MeanGroups x = moved();
            due("round()", x.round(), 0);
            x.reset();
            due("round()", x.round(), 4);
        });
        test(7, answers, "from no group into group 0 counts as well", () -> {
            MeanGroups x = with(1, 1, 2, 2, 3, 3);
            x.groups(1);
            due("round()", x.round(), 3);
            due("round()", x.round(), 0);
        });
        test(7, answers, "none, some and all but one", () -> {
            MeanGroups x = losesAndTakes();
            due("round()", x.round(), 4);
            due("round()", x.round(), 2);
            due("round()", x.round(), 1);
            due("round()", x.round(), 0);
            due("round()", x.round(), 0);
        });
        test(7, answers, "no points", () -> {
            MeanGroups x = new MeanGroups();
            due("round()", x.round(), 0);
            due("round()", x.round(), 0);
        });
        test(7, answers, "after settling nothing moves", () -> {
            MeanGroups x = losesAndTakes();
            x.settle();
            due("round()", x.round(), 0);
        });
    }

    private static void settle() {
        String settles = "Settles, from the seeds on (middles go back to them first).";
        String answers = "Answers how many rounds were made (the last of them is the one that put no point into "
            + "another group, if it did not end at 40).";

        test(8, settles, "after some rounds", () -> {
            MeanGroups x = losesAndTakes();
            x.round();
            x.round();
            due("settle()", x.settle(), 4);
            dueGroups(x, 2, 1, 0, 0);
        });
        test(8, settles, "after settling, again and again", () -> {
            MeanGroups x = losesAndTakes();
            for (int i = 0; i < 4; i++) {
                due("settle()", x.settle(), 4);
                dueGroups(x, 2, 1, 0, 0);
            }
        });
        test(8, settles, "after settling at the limit of 40 rounds", () -> {
            MeanGroups x = needs41();
            due("settle()", x.settle(), 40);
            due("settle() again", x.settle(), 40);
        });
        test(8, settles, "a second settling ends where a first one does", () -> {
            MeanGroups x = needs61();
            x.settle();
            x.round();
            x.settle();
            MeanGroups twin = needs61();
            twin.settle();
            dueSame(x, twin);
        });
        test(8, answers, "the last one is counted too", () -> {
            MeanGroups x = losesAndTakes();
            int made = roundsUntilStill(x);
            due("rounds one by one", made, 4);
            due("settle()", x.settle(), 4);
        });
        test(8, answers, "the least with points: 2", () -> {
            due("settle() with 1 point", with(0, 0).settle(), 2);
            MeanGroups x = full();
            x.groups(1);
            due("settle() with 24 points and one group", x.settle(), 2);
        });
        test(8, answers, "the 39th puts no point into another group", () -> dueLastRound(needs39(), 39, true));
        test(8, answers, "the 40th puts no point into another group", () -> dueLastRound(needs40(), 40, true));
        test(8, answers, "it ends at 40, and the 40th still puts a point into another group (of 41)",
            () -> dueLastRound(needs41(), 40, false));
        test(8, answers, "it ends at 40, and the 40th still puts a point into another group (of 61)",
            () -> dueLastRound(needs61(), 40, false));
    }

    /** The rounds that settle answers, made one by one: what the last moves, and that both end alike. */
    private static void dueLastRound(MeanGroups x, int rounds, boolean still) {
        due("settle()", x.settle(), rounds);
        int[] after = new int[24];
        for (int i = 0; i < 24; i++) {
            after[i] = x.group(i);
        }
        x.reset();
        int last = -1;
        for (int i = 1; i <= rounds; i++) {
            last = x.round();
            if (i < rounds) {
                due("round() " + i + " moves a point", last > 0 ? 1 : 0, 1);
            }
        }
        due("the last round moves none", last == 0 ? 1 : 0, still ? 1 : 0);
        dueGroups(x, after);
    }

    private static void group() {
        String sentence = "The group of the point with the number; -1 if it is in none or there is no such point.";

        test(9, sentence, "in none: before the first round", () -> dueGroups(unmoved(), -1, -1, -1, -1));
        test(9, sentence, "in none: after a reset", () -> {
            MeanGroups x = moved();
            dueGroups(x, 0, 1, 1, 0);
            x.reset();
            dueGroups(x, -1, -1, -1, -1);
        });
        test(9, sentence, "the first and the last number of 24", () -> {
            MeanGroups x = fullAfterARound();
            due("group(0)", x.group(0), 0);
            due("group(23)", x.group(23), 1);
        });
        test(9, sentence, "no such point: below 0", () -> {
            MeanGroups x = moved();
            for (int number : BELOW_ZERO) {
                due("group(" + number + ")", x.group(number), -1);
            }
        });
        test(9, sentence, "no such point: behind the last", () -> {
            MeanGroups x = moved();
            int[] behind = {4, 5, 22, 23, 24, 25, 255, 256, 65536, MAX - 1, MAX};
            for (int number : behind) {
                due("group(" + number + ")", x.group(number), -1);
            }
        });
        test(9, sentence, "no such point: behind the last of 24", () -> {
            MeanGroups x = fullAfterARound();
            int[] behind = {24, 25, 256, 65536, MAX, MIN, -1};
            for (int number : behind) {
                due("group(" + number + ")", x.group(number), -1);
            }
        });
        test(9, sentence, "no such point: no points at all", () -> {
            MeanGroups x = new MeanGroups();
            x.round();
            int[] numbers = {0, 1, 23, 24, -1, MIN, MAX};
            for (int number : numbers) {
                due("group(" + number + ")", x.group(number), -1);
            }
        });
        test(9, sentence, "no such point: it was the last, and one was taken out", () -> {
            MeanGroups x = moved();
            x.drop(0);
            x.round();
            due("group(2)", x.group(2), 0);
            due("group(3)", x.group(3), -1);
        });
    }

    private static void size() {
        String sentence = "How many points are in the group; 0 also if there is no such group.";

        test(10, sentence, "none in it: before the first round", () -> {
            MeanGroups x = unmoved();
            due("size(0)", x.size(0), 0);
            due("size(1)", x.size(1), 0);
        });
        test(10, sentence, "none in it: all are in the other one", () -> {
            MeanGroups x = with(1, 1, 2, 2);
            x.round();
            due("size(0)", x.size(0), 2);
            due("size(1)", x.size(1), 0);
        });
        test(10, sentence, "all 24 in it", () -> {
            MeanGroups x = full();
            x.round();
            due("size(0)", x.size(0), 24);
        });
        test(10, sentence, "no such group: below 0, also while points are in none", () -> {
            for (int group : BELOW_ZERO) {
                due("size(" + group + ") after a round", moved().size(group), 0);
                due("size(" + group + ") before a round", unmoved().size(group), 0);
            }
        });
        test(10, sentence, "no such group: K and above", () -> {
            int[] above = {2, 3, 4, 5, 23, 24, 255, 256, 257, 65536, MAX - 1, MAX};
            for (int group : above) {
                due("size(" + group + ") after a round", moved().size(group), 0);
                due("size(" + group + ") before a round", unmoved().size(group), 0);
            }
        });
        test(10, sentence, "no such group: 4 and above with K 4", () -> {
            MeanGroups x = moved();
            x.groups(4);
            x.round();
            int[] outside = {4, 5, 256, 65536, MAX, -1, MIN};
            for (int group : outside) {
                due("size(" + group + ")", x.size(group), 0);
            }
        });
        test(10, sentence, "no such group any more: K has become less", () -> {
            MeanGroups x = moved();
            due("size(1)", x.size(1), 2);
            x.groups(1);
            due("size(1)", x.size(1), 0);
            x.round();
            due("size(0)", x.size(0), 4);
            due("size(1)", x.size(1), 0);
        });
    }

    private static void sum() {
        String sentence = "The sum of the x of the group's points if which is 0, of their y if it is 1, of the squares "
            + "of both if it is 2; 0 also if there is no such group or which.";

        test(11, sentence, "which 0, 1 and 2", () -> {
            MeanGroups x = with(3, -4, -5, 7);
            x.round();
            due("sum(0, 0)", x.sum(0, 0), -2);
            due("sum(0, 1)", x.sum(0, 1), 3);
            due("sum(0, 2)", x.sum(0, 2), 9 + 16 + 25 + 49);
        });
        test(11, sentence, "the least and the greatest sums", () -> {
            MeanGroups x = new MeanGroups();
            for (int i = 0; i < 24; i++) {
                x.add(-50, 50);
            }
            x.round();
            due("sum(0, 0)", x.sum(0, 0), -1200);
            due("sum(0, 1)", x.sum(0, 1), 1200);
            due("sum(0, 2)", x.sum(0, 2), 120000);
        });
        test(11, sentence, "no point in the group", () -> {
            MeanGroups x = with(3, 4, 5, 6);
            x.round();
            MeanGroups before = with(3, 4, 5, 6);
            for (int which = 0; which <= 2; which++) {
                due("sum(1, " + which + ")", x.sum(1, which), 0);
                due("sum(0, " + which + ") before a round", before.sum(0, which), 0);
                due("sum(0, " + which + ") without points", new MeanGroups().sum(0, which), 0);
            }
        });
        test(11, sentence, "no such group: below 0, also while points are in none", () -> {
            for (int group : BELOW_ZERO) {
                for (int which = 0; which <= 2; which++) {
                    due("sum(" + group + ", " + which + ") after a round", moved().sum(group, which), 0);
                    due("sum(" + group + ", " + which + ") before a round", unmoved().sum(group, which), 0);
                }
            }
        });
        test(11, sentence, "no such group: K and above", () -> {
            int[] above = {2, 3, 4, 5, 24, 255, 256, 257, 65536, MAX - 1, MAX};
            for (int group : above) {
                for (int which = 0; which <= 2; which++) {
                    due("sum(" + group + ", " + which + ") after a round", moved().sum(group, which), 0);
                    due("sum(" + group + ", " + which + ") before a round", unmoved().sum(group, which), 0);
                }
            }
        });
        test(11, sentence, "no such group: 4 and above with K 4", () -> {
            MeanGroups x = moved();
            x.groups(4);
            x.round();
            int[] outside = {4, 5, 256, 65536, MAX, -1, MIN};
            for (int group : outside) {
                due("sum(" + group + ", 0)", x.sum(group, 0), 0);
                due("sum(" + group + ", 2)", x.sum(group, 2), 0);
            }
        });
        test(11, sentence, "no such which: below 0", () -> {
            MeanGroups x = with(3, 4, 5, 7);
            x.round();
            for (int which : BELOW_ZERO) {
                due("sum(0, " + which + ")", x.sum(0, which), 0);
            }
        });
        test(11, sentence, "no such which: above 2", () -> {
            MeanGroups x = with(3, 4, 5, 7);
            x.round();
            int[] above = {3, 4, 5, 255, 256, 257, 258, 65536, 65538, MAX - 1, MAX};
            for (int which : above) {
                due("sum(0, " + which + ")", x.sum(0, which), 0);
            }
        });
        test(11, sentence, "neither such a group nor such a which", () -> {
            MeanGroups x = moved();
            due("sum(-1, -1)", x.sum(-1, -1), 0);
            due("sum(2, 3)", x.sum(2, 3), 0);
            due("sum(MAX, MIN)", x.sum(MAX, MIN), 0);
            due("sum(MIN, MAX)", x.sum(MIN, MAX), 0);
        });
    }

    private static void near() {
        String sentence = "How many points have the middle of the group (0 to K-1) as a nearest middle, whether they "
            + "are in it or not; -1 if there is no such group.";

        test(12, sentence, "no points", () -> {
            MeanGroups x = new MeanGroups();
            x.groups(4);
            dueNear(x, 0, 0, 0, 0, -1);
        });
        test(12, sentence, "all 24, with one group", () -> {
            MeanGroups x = full();
            x.groups(1);
            dueNear(x, 24, -1);
        });
        test(12, sentence, "a nearest one: each of two, three and four equally near ones", () -> {
            MeanGroups x = with(0, 0);
            x.groups(4);
            x.seed(0, 5, 0);
            x.seed(1, 0, 5);
            x.seed(2, 3, 4);
            x.seed(3, -4, -3);
            dueNear(x, 1, 1, 1, 1);
            x.seed(0, 6, 0);
            dueNear(x, 0, 1, 1, 1);
            x.seed(2, 6, 0);
            dueNear(x, 0, 1, 0, 1);
            x.seed(3, 0, 4);
            dueNear(x, 0, 0, 0, 1);
        });
        test(12, sentence, "not in it: in no group, before the first round", () -> {
            MeanGroups x = unmoved();
            dueGroups(x, -1, -1, -1, -1);
            dueNear(x, 2, 3);
        });
        test(12, sentence, "not in it: in another group", () -> {
            // 2 is in group 1 and equally near to the middles 0 and 4 that the round has made.
            MeanGroups x = with(0, 0, 2, 0, 4, 0, 6, 0);
            x.seed(1, 2, 0);
            x.round();
            due("group(1)", x.group(1), 1);
            dueNear(x, 2, 3);
        });
        test(12, sentence, "in it, but not nearest to it any more", () -> {
            // All are in group 0, whose middle is 3 now; 0 is nearest to group 1, which is empty.
            MeanGroups x = with(0, 0, 2, 0, 4, 0, 6, 0);
            x.round();
            due("size(1)", x.size(1), 0);
            dueNear(x, 3, 1);
        });
        test(12, sentence, "whether they are in it or not: near itself puts no point anywhere", () -> {
            MeanGroups x = losesAndTakes();
            dueNear(x, 2, 0, 3, -1);
            dueGroups(x, -1, -1, -1, -1);
            due("round()", x.round(), 4);
            // The middles are (-8, -8), (-2, 12) and (-8, 0); (-6, -4) is equally near to the first and the
            // third, (-5, 6) to the second and the third.
            dueNear(x, 3, 1, 2, -1);
            dueGroups(x, 0, 2, 2, 0);
            due("round()", x.round(), 2);
        });
        test(12, sentence, "no such group: below 0", () -> {
            MeanGroups x = moved();
            for (int group : BELOW_ZERO) {
                due("near(" + group + ")", x.near(group), -1);
            }
        });
        test(12, sentence, "no such group: K and above", () -> {
            int[] above = {4, 5, 24, 255, 256, 257, 65536, MAX - 1, MAX};
            for (int k = 1; k <= 4; k++) {
                MeanGroups x = moved();
                x.groups(k);
                due("near(" + (k - 1) + ") with K " + k, x.near(k - 1) >= 0 ? 1 : 0, 1);
                for (int g = k; g <= 4; g++) {
                    due("near(" + g + ") with K " + k, x.near(g), -1);
                }
                for (int group : above) {
                    due("near(" + group + ") with K " + k, x.near(group), -1);
                }
            }
        });
        test(12, sentence, "no such group, and no points", () -> {
            MeanGroups x = new MeanGroups();
            due("near(-1)", x.near(-1), -1);
            due("near(2)", x.near(2), -1);
            due("near(MAX)", x.near(MAX), -1);
            due("near(MIN)", x.near(MIN), -1);
        });
        test(12, sentence, "a group that is not below K takes no nearest point away", () -> {
            MeanGroups x = with(20, 20);
            x.seed(2, 20, 20);
            x.seed(3, 20, 20);
            dueNear(x, 1, 1, -1, -1);
            x.groups(1);
            dueNear(x, 1, -1, -1, -1);
        });
    }

    private static void orderAndLimits() {
        String same = "A call of seed or groups that is not refused counts as a change of seeds or of K also if it sets "
            + "what was there before.";
        String none = "settle: without points one round is made, and it answers 1.";

        test(13, same, "seed of each group below K, as it was", () -> {
            MeanGroups x = moved();
            due("seed(0, 0, 0)", x.seed(0, 0, 0), 0);
            dueChanged(x);
            MeanGroups y = moved();
            due("seed(1, 6, 0)", y.seed(1, 6, 0), 0);
            dueChanged(y);
        });
        test(13, same, "seed of a group that is not below K, as it was", () -> {
            MeanGroups x = moved();
            due("seed(2, 0, 0)", x.seed(2, 0, 0), 0);
            dueChanged(x);
            MeanGroups y = moved();
            due("seed(3, 0, 0)", y.seed(3, 0, 0), 0);
            dueChanged(y);
        });
        test(13, same, "groups as it was", () -> {
            MeanGroups x = moved();
            x.groups(2);
            dueChanged(x);
        });
        test(13, same, "groups with less than 1, and K was 1", () -> {
            int[] less = {1, 0, -1, MIN};
            for (int k : less) {
                MeanGroups x = moved();
                x.groups(1);
                x.round();
                due("group(0)", x.group(0), 0);
                x.groups(k);
                dueInNoGroup(x, 4);
                due("round()", x.round(), 4);
            }
        });
        test(13, same, "groups with more than 4, and K was 4", () -> {
            int[] more = {4, 5, 6, MAX};
            for (int k : more) {
                MeanGroups x = unmoved();
                x.seed(2, 50, 50);
                x.seed(3, 50, 50);
                x.groups(4);
                x.round();
                dueNear(x, 2, 2, 0, 0);
                x.groups(k);
                dueInNoGroup(x, 4);
                dueNear(x, 2, 3, 0, 0);
                due("round()", x.round(), 4);
            }
        });
        test(13, same, "one that is refused does not count", () -> {
            MeanGroups x = moved();
            due("seed(4, 0, 0)", x.seed(4, 0, 0), -1);
            due("seed(-1, 6, 0)", x.seed(-1, 6, 0), -1);
            due("seed(1, 6, 51)", x.seed(1, 6, 51), -1);
            due("seed(0, -51, 0)", x.seed(0, -51, 0), -1);
            dueStillMoved(x);
        });
        test(13, none, "a new object", () -> {
            MeanGroups x = new MeanGroups();
            due("settle()", x.settle(), 1);
            due("settle() again", x.settle(), 1);
        });
        test(13, none, "all points were taken out", () -> {
            MeanGroups x = with(1, 1);
            due("settle() with a point", x.settle(), 2);
            x.drop(0);
            due("settle()", x.settle(), 1);
            due("round()", x.round(), 0);
            due("settle() after a round", x.settle(), 1);
        });
        test(13, none, "with each K, and with seeds set", () -> {
            for (int k = 1; k <= 4; k++) {
                MeanGroups x = new MeanGroups();
                x.groups(k);
                x.seed(k - 1, 50, -50);
                due("settle() with K " + k, x.settle(), 1);
            }
        });
        test(13, none, "only without points: with one it is 2", () -> {
            MeanGroups x = new MeanGroups();
            due("settle()", x.settle(), 1);
            x.add(0, 0);
            due("settle() with a point", x.settle(), 2);
        });
    }

    private static void dueChanged(MeanGroups x) {
        dueInNoGroup(x, 4);
        dueNear(x, 2, 3);
        due("round()", x.round(), 4);
        dueNear(x, 2, 2);
    }

    public static void main(String[] args) {
        whatItIs();
        termsOfPoints();
        termsOfGroups();
        termsOfMiddles();
        termsOfARound();
        termsOfSettling();
        newObject();
        add();
        drop();
        seed();
        groups();
        reset();
        round();
        settle();
        group();
        size();
        sum();
        near();
        orderAndLimits();
        System.out.println(tests + " tests of boundary cases with " + checks + " answers; "
            + failedTests + " tests failed");
        if (wrong != 0) {
            System.exit(1);
        }
    }
}
