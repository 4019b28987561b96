import java.math.BigInteger;
import java.util.ArrayList;
import java.util.List;

// Many runs of calls, each answer compared with that of a second program, which follows the words of
// the document with fractions of any size. The calls come from a fixed sequence of numbers, so that
// every run of this test makes the same ones.
public final class MeanGroupsModel {
    private static final int RUNS = 800;
    private static final int CALLS = 512;

    private static int wrong = 0;

    /** A fraction with a divisor above 0. */
    private static final class Fraction {
        final BigInteger top;
        final BigInteger bottom;

        Fraction(BigInteger top, BigInteger bottom) {
            this.top = top;
            this.bottom = bottom;
        }

        static Fraction of(long top, long bottom) {
            return new Fraction(BigInteger.valueOf(top), BigInteger.valueOf(bottom));
        }

        Fraction plus(Fraction o) {
            return new Fraction(top.multiply(o.bottom).add(o.top.multiply(bottom)), bottom.multiply(o.bottom));
        }

        Fraction squareOfDifference(Fraction o) {
            BigInteger difference = top.multiply(o.bottom).subtract(o.top.multiply(bottom));
            BigInteger divisor = bottom.multiply(o.bottom);
            return new Fraction(difference.multiply(difference), divisor.multiply(divisor));
        }

        int compare(Fraction o) {
            return top.multiply(o.bottom).compareTo(o.top.multiply(bottom));
        }
    }

    private static final class Point {
        final int x;
        final int y;
        int group = -1;

        Point(int x, int y) {
            this.x = x;
            this.y = y;
        }
    }

    private static final class Model {
        final List<Point> points = new ArrayList<>();
        final int[][] seeds = new int[4][2];
        final Fraction[][] middles = new Fraction[4][2];
        int k = 2;

        Model() {
            reset();
        }

        static boolean inRange(int v) {
            return -50 <= v && v <= 50;
        }

        int add(int x, int y) {
            if (!inRange(x) || !inRange(y) || points.size() == 24) {
                return -1;
            }
            points.add(new Point(x, y));
            reset();
            return points.size();
        }

        int drop(int number) {
            if (number < 0 || number >= points.size()) {
                return -1;
            }
            points.remove(number);
            reset();
            return points.size();
        }

        int seed(int group, int x, int y) {
            if (group < 0 || group > 3 || !inRange(x) || !inRange(y)) {
                return -1;
            }
            seeds[group] = new int[] {x, y};
            reset();
            return 0;
        }

        void groups(int asked) {
            k = Math.max(1, Math.min(4, asked));
            reset();
        }

        void reset() {
            for (int g = 0; g < 4; g++) {
                middles[g][0] = Fraction.of(seeds[g][0], 1);
                middles[g][1] = Fraction.of(seeds[g][1], 1);
            }
            for (Point p : points) {
                p.group = -1;
            }
        }

        Fraction distance(Point p, int group) {
            Fraction dx = Fraction.of(p.x, 1).squareOfDifference(middles[group][0]);
            Fraction dy = Fraction.of(p.y, 1).squareOfDifference(middles[group][1]);
            return dx.plus(dy);
        }

        boolean isNearest(Point p, int group) {
            for (int g = 0; g < k; g++) {
                if (distance(p, g).compare(distance(p, group)) < 0) {
                    return false;
                }
            }
            return true;
        }

        int round() {
            int moved = 0;
            for (Point p : points) {
                int g = 0;
                while (!isNearest(p, g)) {
                    g++;
                }
                if (p.group != g) {
                    moved++;
                }
                p.group = g;
            }
            for (int g = 0; g < k; g++) {
                if (size(g) > 0) {
                    middles[g][0] = Fraction.of(sum(g, 0), size(g));
                    middles[g][1] = Fraction.of(sum(g, 1), size(g));
                }
            }
            return moved;
        }

        int settle() {
            reset();
            int made = 0;
            boolean goOn = true;
            while (goOn && made < 40) {
                goOn = round() > 0;
                made++;
            }
            return made;
        }

        int group(int number) {
            return number < 0 || number >= points.size() ? -1 : points.get(number).group;
        }

        int size(int group) {
            return group < 0 ? 0 : (int) points.stream().filter(p -> p.group == group).count();
        }

        int sum(int group, int which) {
            return group < 0 ? 0 : points.stream().filter(p -> p.group == group).mapToInt(p -> switch (which) {
                case 0 -> p.x;
                case 1 -> p.y;
                case 2 -> p.x * p.x + p.y * p.y;
                default -> 0;
            }).sum();
        }

        int near(int group) {
            return group < 0 || group >= k ? -1 : (int) points.stream().filter(p -> isNearest(p, group)).count();
        }
    }

    /** A fixed sequence of numbers that looks without order. */
    private static final class Numbers {
        private long state;

        Numbers(long start) {
            state = start * 0x9E3779B97F4A7C15L + 1;
        }

        int below(int bound) {
            state = state * 6364136223846793005L + 1442695040888963407L;
            return (int) ((state >>> 33) % bound);
        }

        int from(int least, int most) {
            return least + below(most - least + 1);
        }

        /** Mostly within the reach; now and then at an edge of the range or outside it. */
        int coordinate(int reach) {
            int[] edges = {-50, 50, -51, 51, Integer.MIN_VALUE, Integer.MAX_VALUE};
            return below(40) == 0 ? edges[below(edges.length)] : from(-reach, reach);
        }

        int index(int most) {
            int[] edges = {Integer.MIN_VALUE, Integer.MAX_VALUE, -1, most + 1};
            return below(30) == 0 ? edges[below(edges.length)] : from(0, most);
        }
    }

    private static void due(int run, int call, String name, int got, int want) {
        if (got != want) {
            wrong++;
            if (wrong <= 20) {
                System.out.println("run " + run + ", call " + call + ": " + name + " answered " + got + ", due is " + want);
            }
        }
    }

    private static int change(Numbers numbers, int reach, int run, int call, MeanGroups x, Model m) {
        int kind = numbers.below(10);
        if (kind < 5) {
            int px = numbers.coordinate(reach);
            int py = numbers.coordinate(reach);
            due(run, call, "add(" + px + ", " + py + ")", x.add(px, py), m.add(px, py));
        } else if (kind < 6) {
            int number = numbers.index(24);
            due(run, call, "drop(" + number + ")", x.drop(number), m.drop(number));
        } else if (kind < 8) {
            int group = numbers.index(3);
            int sx = numbers.coordinate(reach);
            int sy = numbers.coordinate(reach);
            due(run, call, "seed(" + group + ", " + sx + ", " + sy + ")", x.seed(group, sx, sy), m.seed(group, sx, sy));
        } else if (kind < 9) {
            int k = numbers.from(-1, 6);
            x.groups(k);
            m.groups(k);
        } else {
            x.reset();
            m.reset();
        }
        return call + 1;
    }

    private static int look(Numbers numbers, int run, int call, MeanGroups x, Model m) {
        int group = numbers.index(4);
        switch (numbers.below(4)) {
            case 0 -> {
                int number = numbers.index(24);
                due(run, call, "group(" + number + ")", x.group(number), m.group(number));
            }
            case 1 -> due(run, call, "size(" + group + ")", x.size(group), m.size(group));
            case 2 -> {
                int which = numbers.index(2);
                due(run, call, "sum(" + group + ", " + which + ")", x.sum(group, which), m.sum(group, which));
            }
            default -> due(run, call, "near(" + group + ")", x.near(group), m.near(group));
        }
        return call + 1;
    }

    private static int lookAtAll(int run, int call, MeanGroups x, Model m) {
        for (int i = 0; i < 24; i++) {
            due(run, call, "group(" + i + ")", x.group(i), m.group(i));
        }
        for (int g = 0; g < 4; g++) {
            due(run, call, "near(" + g + ")", x.near(g), m.near(g));
        }
        return call + 28;
    }

    private static void oneRun(int run) {
        Numbers numbers = new Numbers(run);
        // A small reach makes many ties, the whole range makes the greatest numbers.
        int[] reaches = {2, 6, 15, 50};
        int reach = reaches[run % reaches.length];
        MeanGroups x = new MeanGroups();
        Model m = new Model();
        int call = 0;
        while (call < CALLS - 30) {
            int kind = numbers.below(20);
            if (kind < 10) {
                call = change(numbers, reach, run, call, x, m);
            } else if (kind < 14) {
                due(run, call, "round()", x.round(), m.round());
                call++;
            } else if (kind < 15) {
                due(run, call, "settle()", x.settle(), m.settle());
                call++;
            } else if (kind < 19) {
                call = look(numbers, run, call, x, m);
            } else {
                call = lookAtAll(run, call, x, m);
            }
        }
    }

    public static void main(String[] args) {
        for (int run = 0; run < RUNS; run++) {
            oneRun(run);
        }
        System.out.println(wrong == 0 ? "all answers are as due" : wrong + " answers are not as due");
        if (wrong != 0) {
            System.exit(1);
        }
    }
}
