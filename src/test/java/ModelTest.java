import java.util.Random;

/** Long mixed runs of calls, each answer compared with the model's; the seeds are fixed. */
public final class ModelTest {
    private static final int RUNS = 120;
    private static final int CALLS_OF_AN_OBJECT = 512;
    private static final int[] ODD_NUMBERS = {Integer.MIN_VALUE, -126, -125, -17, -2, -1, 0, 1, 7, 8, 9, 15, 16, 17,
        124, 125, 126, Integer.MAX_VALUE};

    private final Random random;
    private final String name;
    private final int spread;
    private final PrivacyLattice real = new PrivacyLattice();
    private final Model model = new Model();

    private ModelTest(int seed) {
        random = new Random(seed);
        name = "run " + seed;
        // Rows that lie close together make groups that random rows hardly ever make.
        spread = 1 + seed % 16;
    }

    public static void main(String[] args) {
        for (int seed = 0; seed < RUNS; seed++) {
            ModelTest run = new ModelTest(seed);
            for (int call = 1; call <= CALLS_OF_AN_OBJECT; call++) {
                run.oneCall(call);
            }
        }
        for (int seed = 0; seed < RUNS; seed++) {
            // So that tables of no rows to sixteen all come, each with several spreads.
            new ModelTest(seed).everySetting(seed % 17);
        }
        Check.finish();
    }

    private int below(int bound) {
        return random.nextInt(bound);
    }

    private int mostlyBelow(int bound) {
        return below(16) == 0 ? ODD_NUMBERS[below(ODD_NUMBERS.length)] : below(bound);
    }

    private int someValues() {
        if (below(16) == 0) {
            return random.nextInt();
        }
        return below(spread) + 16 * below(spread) + 256 * below(spread);
    }

    private void oneCall(int number) {
        String at = name + ", call " + number + ": ";
        switch (below(14)) {
            case 0, 1, 2, 3 -> compareRow(at, someValues(), mostlyBelow(8));
            case 4 -> Check.due(at + "drop()", real.drop(), model.drop());
            case 5 -> compareDemand(at, 1 + mostlyBelow(5), 1 + mostlyBelow(3), mostlyBelow(6));
            case 6 -> compareDemand(at, mostlyBelow(10), mostlyBelow(10), mostlyBelow(18));
            case 7 -> compareLeftOut(at, mostlyBelow(125));
            case 8 -> compareGood(at, mostlyBelow(125));
            case 9 -> Check.due(at + "goodSettings()", real.goodSettings(), model.goodSettings());
            case 10 -> Check.due(at + "finest()", real.finest(), model.finest());
            case 11 -> compareFinestAt(at, mostlyBelow(5));
            case 12 -> Check.due(at + "best()", real.best(), model.best());
            default -> {
                if (below(2) == 0) {
                    compareGroups(at, mostlyBelow(125));
                } else {
                    compareLookAlike(at, mostlyBelow(125), mostlyBelow(17));
                }
            }
        }
    }

    /** Fills an object, then asks for every setting: 16 + 1 + 3 * 125 + 3 + 20 + 5 * 18 calls at most. */
    private void everySetting(int rows) {
        String at = name + ", every setting: ";
        for (int i = 0; i < rows; i++) {
            compareRow(at, someValues(), below(8));
        }
        compareDemand(at, 1 + below(4), 1 + below(3), below(6));
        for (int setting = 0; setting < 125; setting++) {
            compareLeftOut(at, setting);
            compareGood(at, setting);
            compareGroups(at, setting);
        }
        Check.due(at + "goodSettings()", real.goodSettings(), model.goodSettings());
        Check.due(at + "finest()", real.finest(), model.finest());
        Check.due(at + "best()", real.best(), model.best());
        for (int i = 0; i < 20; i++) {
            compareFinestAt(at, i);
        }
        for (int i = 0; i < 5; i++) {
            int setting = below(125);
            for (int r = -1; r <= 16; r++) {
                compareLookAlike(at, setting, r);
            }
        }
    }

    private void compareRow(String at, int values, int secret) {
        Check.due(at + "row(" + values + ", " + secret + ")", real.row(values, secret), model.row(values, secret));
    }

    private void compareDemand(String at, int k, int l, int s) {
        Check.due(at + "demand(" + k + ", " + l + ", " + s + ")", real.demand(k, l, s), model.demand(k, l, s));
    }

    private void compareLeftOut(String at, int setting) {
        Check.due(at + "leftOut(" + setting + ")", real.leftOut(setting), model.leftOut(setting));
    }

    private void compareGood(String at, int setting) {
        Check.due(at + "good(" + setting + ")", real.good(setting), model.good(setting));
    }

    private void compareFinestAt(String at, int i) {
        Check.due(at + "finestAt(" + i + ")", real.finestAt(i), model.finestAt(i));
    }

    private void compareGroups(String at, int setting) {
        Check.due(at + "groups(" + setting + ")", real.groups(setting), model.groups(setting));
    }

    private void compareLookAlike(String at, int setting, int r) {
        Check.due(at + "lookAlike(" + setting + ", " + r + ")", real.lookAlike(setting, r),
                model.lookAlike(setting, r));
    }
}
