/** Tables made coarser until nobody stands out. */
public final class PrivacyLattice {
    public static final int BAD_VALUE = -1;
    public static final int FULL = -2;
    public static final int BAD_ROW = -3;
    public static final int BAD_SETTING = -4;
    public static final int NONE = -5;

    private static final int MAX_ROWS = 16;
    private static final int MAX_SECRET = 7;
    private static final int MAX_DEMAND = 8;
    private static final int SETTINGS = 125;
    private static final int MAX_LEVEL_SUM = 12;

    // What one level more of attribute 0, 1 or 2 adds to a setting's number.
    private static final int STEP_0 = 1;
    private static final int STEP_1 = 5;
    private static final int STEP_2 = 25;

    private final int[] rowValues = new int[MAX_ROWS];
    private final int[] rowSecrets = new int[MAX_ROWS];
    private int rowCount;
    private int minRows;
    private int minSecrets;
    private int maxLeftOut;

    public PrivacyLattice() {
        rowCount = 0;
        minRows = 2;
        minSecrets = 1;
        maxLeftOut = 0;
    }

    public int row(int values, int secret) {
        if (secret < 0 || secret > MAX_SECRET) {
            return BAD_VALUE;
        }
        if (rowCount >= MAX_ROWS) {
            return FULL;
        }
        rowValues[rowCount] = values;
        rowSecrets[rowCount] = secret;
        rowCount++;
        return rowCount - 1;
    }

    public int drop() {
        if (rowCount <= 0) {
            return BAD_ROW;
        }
        rowCount--;
        return rowCount;
    }

    public int demand(int k, int l, int s) {
        if (k < 1 || k > MAX_DEMAND || l < 1 || l > MAX_DEMAND || s < 0 || s > MAX_ROWS) {
            return BAD_VALUE;
        }
        minRows = k;
        minSecrets = l;
        maxLeftOut = s;
        return 0;
    }

    public int leftOut(int setting) {
        if (!isSetting(setting)) {
            return BAD_SETTING;
        }
        return countLeftOut(setting);
    }

    public boolean good(int setting) {
        return isSetting(setting) && isGood(setting);
    }

    public int goodSettings() {
        int count = 0;
        for (int setting = 0; setting < SETTINGS; setting++) {
            if (isGood(setting)) {
                count++;
            }
        }
        return count;
    }

    public int finest() {
        int count = 0;
        for (int setting = 0; setting < SETTINGS; setting++) {
            if (isFinest(setting)) {
                count++;
            }
        }
        return count;
    }

    public int finestAt(int i) {
        int passed = 0;
        for (int setting = 0; setting < SETTINGS; setting++) {
            if (isFinest(setting)) {
                if (passed == i) {
                    return setting;
                }
                passed++;
            }
        }
        return NONE;
    }

    public int best() {
        int found = NONE;
        int leastSum = MAX_LEVEL_SUM + 1;
        for (int setting = 0; setting < SETTINGS; setting++) {
            int sum = levelSum(setting);
            if (sum < leastSum && isGood(setting)) {
                found = setting;
                leastSum = sum;
            }
        }
        return found;
    }

    public int groups(int setting) {
        if (!isSetting(setting)) {
            return BAD_SETTING;
        }
        int count = 0;
        for (int r = 0; r < rowCount; r++) {
            // Each group is counted once, at the first of its rows.
            if (countAlike(setting, r, r) == 0) {
                count++;
            }
        }
        return count;
    }

    public int lookAlike(int setting, int r) {
        if (!isSetting(setting)) {
            return BAD_SETTING;
        }
        if (r < 0 || r >= rowCount) {
            return BAD_ROW;
        }
        return countAlike(setting, r, rowCount);
    }

    private static boolean isSetting(int setting) {
        return setting >= 0 && setting < SETTINGS;
    }

    private static int levelSum(int setting) {
        return setting % STEP_1 + setting % STEP_2 / STEP_1 + setting / STEP_2;
    }

    /** The three attributes of row r as the setting shows them, in one number. */
    private int shown(int setting, int r) {
        int values = rowValues[r];
        int shown0 = (values & 15) >> (setting % STEP_1);
        int shown1 = ((values >> 4) & 15) >> (setting % STEP_2 / STEP_1);
        int shown2 = ((values >> 8) & 15) >> (setting / STEP_2);
        return shown0 | (shown1 << 4) | (shown2 << 8);
    }

    /** How many of the rows numbered below end look like row r. */
    private int countAlike(int setting, int r, int end) {
        int wanted = shown(setting, r);
        int count = 0;
        for (int other = 0; other < end; other++) {
            if (shown(setting, other) == wanted) {
                count++;
            }
        }
        return count;
    }

    private int countSecrets(int setting, int r) {
        int wanted = shown(setting, r);
        int seen = 0;
        int count = 0;
        for (int other = 0; other < rowCount; other++) {
            int secretBit = 1 << rowSecrets[other];
            if ((seen & secretBit) == 0 && shown(setting, other) == wanted) {
                seen |= secretBit;
                count++;
            }
        }
        return count;
    }

    private int countLeftOut(int setting) {
        int count = 0;
        for (int r = 0; r < rowCount; r++) {
            boolean hiddenEnough = countAlike(setting, r, rowCount) >= minRows
                    && countSecrets(setting, r) >= minSecrets;
            if (!hiddenEnough) {
                count++;
            }
        }
        return count;
    }

    private boolean isGood(int setting) {
        return countLeftOut(setting) <= maxLeftOut;
    }

    /**
     * Looks only one level down on each attribute. That is enough: a coarser setting only
     * joins groups, and a joined group has all the rows and secrets of its parts, so whatever
     * is coarser than a good setting is good too.
     */
    private boolean isFinest(int setting) {
        if (!isGood(setting)) {
            return false;
        }
        boolean goodOneDown0 = setting % STEP_1 >= STEP_0 && isGood(setting - STEP_0);
        boolean goodOneDown1 = setting % STEP_2 >= STEP_1 && isGood(setting - STEP_1);
        boolean goodOneDown2 = setting >= STEP_2 && isGood(setting - STEP_2);
        return !goodOneDown0 && !goodOneDown1 && !goodOneDown2;
    }
}
