import java.util.ArrayList;
import java.util.Collection;
import java.util.HashMap;
import java.util.HashSet;
import java.util.List;
import java.util.Map;
import java.util.Set;

/** The document's words as they stand, with the Java library and without any short cut. */
final class Model {
    private record Row(List<Integer> attributes, int secret) {
    }

    private final List<Row> rows = new ArrayList<>();
    private int k = 2;
    private int l = 1;
    private int s = 0;

    int row(int values, int secret) {
        if (secret < 0 || secret > 7) {
            return -1;
        }
        if (rows.size() == 16) {
            return -2;
        }
        rows.add(new Row(List.of(values & 15, (values >> 4) & 15, (values >> 8) & 15), secret));
        return rows.size() - 1;
    }

    int drop() {
        if (rows.isEmpty()) {
            return -3;
        }
        rows.remove(rows.size() - 1);
        return rows.size();
    }

    int demand(int newK, int newL, int newS) {
        if (newK < 1 || newK > 8 || newL < 1 || newL > 8 || newS < 0 || newS > 16) {
            return -1;
        }
        k = newK;
        l = newL;
        s = newS;
        return 0;
    }

    int leftOut(int setting) {
        if (!isSetting(setting)) {
            return -4;
        }
        int count = 0;
        for (List<Row> group : groupsAt(setting)) {
            Set<Integer> secrets = new HashSet<>();
            group.forEach(row -> secrets.add(row.secret()));
            if (group.size() < k || secrets.size() < l) {
                count += group.size();
            }
        }
        return count;
    }

    boolean good(int setting) {
        return isSetting(setting) && leftOut(setting) <= s;
    }

    int goodSettings() {
        return allGood().size();
    }

    int finest() {
        return allFinest().size();
    }

    int finestAt(int i) {
        List<Integer> all = allFinest();
        return i >= 0 && i < all.size() ? all.get(i) : -5;
    }

    int best() {
        int found = -5;
        for (int setting : allGood()) {
            if (found == -5 || levelSum(setting) < levelSum(found)) {
                found = setting;
            }
        }
        return found;
    }

    int groups(int setting) {
        return isSetting(setting) ? groupsAt(setting).size() : -4;
    }

    int lookAlike(int setting, int r) {
        if (!isSetting(setting)) {
            return -4;
        }
        if (r < 0 || r >= rows.size()) {
            return -3;
        }
        List<Integer> wanted = shown(rows.get(r), setting);
        return (int) rows.stream().filter(row -> shown(row, setting).equals(wanted)).count();
    }

    private static boolean isSetting(int setting) {
        return setting >= 0 && setting <= 124;
    }

    private static int level(int setting, int attribute) {
        int level = setting;
        for (int i = 0; i < attribute; i++) {
            level /= 5;
        }
        return level % 5;
    }

    private static int levelSum(int setting) {
        return level(setting, 0) + level(setting, 1) + level(setting, 2);
    }

    private static boolean isCoarser(int setting, int than) {
        for (int attribute = 0; attribute < 3; attribute++) {
            if (level(setting, attribute) < level(than, attribute)) {
                return false;
            }
        }
        return setting != than;
    }

    private static List<Integer> shown(Row row, int setting) {
        List<Integer> shown = new ArrayList<>();
        for (int attribute = 0; attribute < 3; attribute++) {
            int divisor = 1;
            for (int i = 0; i < level(setting, attribute); i++) {
                divisor *= 2;
            }
            shown.add(row.attributes().get(attribute) / divisor);
        }
        return shown;
    }

    private Collection<List<Row>> groupsAt(int setting) {
        Map<List<Integer>, List<Row>> groups = new HashMap<>();
        for (Row row : rows) {
            groups.computeIfAbsent(shown(row, setting), unused -> new ArrayList<>()).add(row);
        }
        return groups.values();
    }

    private List<Integer> allGood() {
        List<Integer> all = new ArrayList<>();
        for (int setting = 0; setting <= 124; setting++) {
            if (good(setting)) {
                all.add(setting);
            }
        }
        return all;
    }

    private List<Integer> allFinest() {
        List<Integer> good = allGood();
        List<Integer> all = new ArrayList<>();
        for (int setting : good) {
            if (good.stream().noneMatch(other -> isCoarser(setting, other))) {
                all.add(setting);
            }
        }
        return all;
    }
}
