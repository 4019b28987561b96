/** Points in the plane that are gathered around a few middles, again and again, until nothing moves. */
public final class MeanGroups {
    private static final int MOST_POINTS = 24;
    private static final int MOST_GROUPS = 4;
    private static final int MOST_ROUNDS = 40;
    private static final int FIRST_GROUP_COUNT = 2;
    private static final int FARTHEST = 50;
    private static final int NO_GROUP = -1;
    private static final int REFUSED = -1;

    private static final int SUM_OF_X = 0;
    private static final int SUM_OF_Y = 1;
    private static final int SUM_OF_SQUARES = 2;

    private final int[] pointX = new int[MOST_POINTS];
    private final int[] pointY = new int[MOST_POINTS];
    private final int[] groupOf = new int[MOST_POINTS];

    private final int[] seedX = new int[MOST_GROUPS];
    private final int[] seedY = new int[MOST_GROUPS];

    // A mean need not be whole, so a middle is kept as a sum and the count that would divide it;
    // it is never divided, and so never rounded. The count is always 1 or more.
    private final int[] middleSumX = new int[MOST_GROUPS];
    private final int[] middleSumY = new int[MOST_GROUPS];
    private final int[] middleCount = new int[MOST_GROUPS];

    private int pointCount = 0;
    private int groupCount = FIRST_GROUP_COUNT;

    public MeanGroups() {
        startOver();
    }

    public int add(int x, int y) {
        if (!isCoordinate(x) || !isCoordinate(y) || pointCount >= MOST_POINTS) {
            return REFUSED;
        }
        pointX[pointCount] = x;
        pointY[pointCount] = y;
        pointCount++;
        startOver();
        return pointCount;
    }

    public int drop(int number) {
        if (!isPoint(number)) {
            return REFUSED;
        }
        for (int i = number + 1; i < pointCount; i++) {
            pointX[i - 1] = pointX[i];
            pointY[i - 1] = pointY[i];
        }
        pointCount--;
        startOver();
        return pointCount;
    }

    public int seed(int group, int x, int y) {
        // Seeds outlive a change of K, so a group that is not below K can have one too.
        if (group < 0 || group >= MOST_GROUPS || !isCoordinate(x) || !isCoordinate(y)) {
            return REFUSED;
        }
        seedX[group] = x;
        seedY[group] = y;
        startOver();
        return 0;
    }

    public void groups(int k) {
        if (k < 1) {
            groupCount = 1;
        } else if (k > MOST_GROUPS) {
            groupCount = MOST_GROUPS;
        } else {
            groupCount = k;
        }
        startOver();
    }

    public void reset() {
        startOver();
    }

    public int round() {
        return makeRound();
    }

    public int settle() {
        // With all points in no group, the first round moves every point there is. So it counts
        // as one that did, and only without points is it also the last.
        startOver();
        for (int made = 1; made <= MOST_ROUNDS; made++) {
            int moved = makeRound();
            if (moved == 0) {
                return made;
            }
        }
        return MOST_ROUNDS;
    }

    public int group(int number) {
        return isPoint(number) ? groupOf[number] : NO_GROUP;
    }

    public int size(int group) {
        return isGroup(group) ? countMembers(group) : 0;
    }

    public int sum(int group, int which) {
        return isGroup(group) ? sumMembers(group, which) : 0;
    }

    public int near(int group) {
        if (!isGroup(group)) {
            return REFUSED;
        }
        int count = 0;
        for (int i = 0; i < pointCount; i++) {
            int nearest = nearestGroup(i);
            // Several middles may be equally near, and each of them counts as a nearest one.
            if (compareDistances(i, group, nearest) == 0) {
                count++;
            }
        }
        return count;
    }

    private static boolean isCoordinate(int value) {
        return value >= -FARTHEST && value <= FARTHEST;
    }

    private boolean isPoint(int number) {
        return number >= 0 && number < pointCount;
    }

    private boolean isGroup(int group) {
        return group >= 0 && group < groupCount;
    }

    private void startOver() {
        for (int g = 0; g < MOST_GROUPS; g++) {
            middleSumX[g] = seedX[g];
            middleSumY[g] = seedY[g];
            middleCount[g] = 1;
        }
        for (int i = 0; i < MOST_POINTS; i++) {
            groupOf[i] = NO_GROUP;
        }
    }

    private int makeRound() {
        int moved = 0;
        for (int i = 0; i < pointCount; i++) {
            int nearest = nearestGroup(i);
            if (groupOf[i] != nearest) {
                groupOf[i] = nearest;
                moved++;
            }
        }
        // Not before all points are placed: a round looks at the old middles only.
        moveMiddles();
        return moved;
    }

    private void moveMiddles() {
        for (int g = 0; g < groupCount; g++) {
            int count = countMembers(g);
            if (count > 0) {
                middleSumX[g] = sumMembers(g, SUM_OF_X);
                middleSumY[g] = sumMembers(g, SUM_OF_Y);
                middleCount[g] = count;
            }
        }
    }

    private int nearestGroup(int point) {
        int nearest = 0;
        for (int g = 1; g < groupCount; g++) {
            // Only a middle that is truly nearer wins, so that the least number keeps a tie.
            if (compareDistances(point, g, nearest) < 0) {
                nearest = g;
            }
        }
        return nearest;
    }

    /** Below 0 if the point is nearer to the first middle, above 0 if nearer to the second. */
    private long compareDistances(int point, int first, int second) {
        // Each distance comes multiplied by its own count squared; the other's count squared
        // brings both to the same scale. An emptied group keeps its old count, so two counts can
        // add up to more than all points, and the products pass an int.
        long firstCount = middleCount[first];
        long secondCount = middleCount[second];
        long toFirst = scaledDistance(point, first) * secondCount * secondCount;
        long toSecond = scaledDistance(point, second) * firstCount * firstCount;
        return toFirst - toSecond;
    }

    private long scaledDistance(int point, int group) {
        long count = middleCount[group];
        long dx = pointX[point] * count - middleSumX[group];
        long dy = pointY[point] * count - middleSumY[group];
        return dx * dx + dy * dy;
    }

    private int countMembers(int group) {
        int count = 0;
        for (int i = 0; i < pointCount; i++) {
            if (groupOf[i] == group) {
                count++;
            }
        }
        return count;
    }

    private int sumMembers(int group, int which) {
        int total = 0;
        for (int i = 0; i < pointCount; i++) {
            if (groupOf[i] == group) {
                total += share(i, which);
            }
        }
        return total;
    }

    private int share(int point, int which) {
        int x = pointX[point];
        int y = pointY[point];
        switch (which) {
            case SUM_OF_X:
                return x;
            case SUM_OF_Y:
                return y;
            case SUM_OF_SQUARES:
                return x * x + y * y;
            default:
                return 0;
        }
    }
}
