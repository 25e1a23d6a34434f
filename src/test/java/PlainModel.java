import java.util.ArrayList;
import java.util.HashSet;
import java.util.List;
import java.util.Map;
import java.util.Set;
import java.util.TreeMap;

/**
 * A second reading of the document, made to be compared with the class. It holds the records as the
 * document prints them (key to kind, value, more) and looks everything up in them, so that it shares
 * no way of working with the class.
 */
final class PlainModel {
    private record Key(int id, int name) implements Comparable<Key> {
        @Override
        public int compareTo(Key other) {
            return id != other.id ? Integer.compare(id, other.id) : Integer.compare(name, other.name);
        }
    }

    private final TreeMap<Key, int[]> catalog = new TreeMap<>();
    private final TreeMap<Integer, List<Integer>> lists = new TreeMap<>();
    private final TreeMap<Integer, Integer> linkCounts = new TreeMap<>();
    private final Set<Integer> used = new HashSet<>();
    private int rootValence;
    private int next = 16;
    private boolean mounted = true;

    int make(int parent, int name, boolean folder) {
        if (!mounted) return -1;
        if (name < 0 || name > 99) return -2;
        if (!isFolder(parent)) return -3;
        if (catalog.containsKey(new Key(parent, name))) return -4;
        if (entries() == 20) return -5;
        int id = next++;
        catalog.put(new Key(parent, name), new int[] {folder ? 1 : 2, id, 0});
        catalog.put(new Key(id, -1), new int[] {folder ? 4 : 5, parent, name});
        if (!folder) lists.put(id, new ArrayList<>());
        addToValence(parent, 1);
        return id;
    }

    int link(int parent, int name, int toParent, int toName) {
        if (!mounted) return -1;
        if (name < 0 || name > 99 || toName < 0 || toName > 99) return -2;
        if (!isFolder(parent)) return -3;
        int[] row = catalog.get(new Key(parent, name));
        if (row == null || row[0] == 1 || !isFolder(toParent)) return -3;
        if (catalog.containsKey(new Key(toParent, toName))) return -4;
        if (entries() == 20) return -5;
        int file = row[0] == 3 ? row[2] : row[1];
        if (row[0] == 2) {
            int first = next++;
            catalog.put(new Key(3, file), new int[] {2, file, lists.get(file).size()});
            catalog.put(new Key(file, -1), new int[] {5, 3, file});
            catalog.put(new Key(parent, name), new int[] {3, first, file});
            catalog.put(new Key(first, -1), new int[] {5, parent, name});
            linkCounts.put(file, 1);
        }
        int second = next++;
        catalog.put(new Key(toParent, toName), new int[] {3, second, file});
        catalog.put(new Key(second, -1), new int[] {5, toParent, toName});
        linkCounts.merge(file, 1, Integer::sum);
        addToValence(toParent, 1);
        return second;
    }

    int remove(int parent, int name) {
        if (!mounted) return -1;
        if (name < 0 || name > 99) return -2;
        if (!isFolder(parent)) return -3;
        int[] row = catalog.get(new Key(parent, name));
        if (row == null) return -3;
        if (row[0] == 1 && entriesIn(row[1]) != 0) return -6;
        catalog.remove(new Key(parent, name));
        catalog.remove(new Key(row[1], -1));
        addToValence(parent, -1);
        if (row[0] == 2) used.removeAll(lists.remove(row[1]));
        if (row[0] == 3 && linkCounts.merge(row[2], -1, Integer::sum) == 0) {
            linkCounts.remove(row[2]);
            used.removeAll(lists.remove(row[2]));
            catalog.remove(new Key(3, row[2]));
            catalog.remove(new Key(row[2], -1));
        }
        return row[1];
    }

    int move(int parent, int name, int toParent, int toName) {
        if (!mounted) return -1;
        if (name < 0 || name > 99 || toName < 0 || toName > 99) return -2;
        if (!isFolder(parent)) return -3;
        int[] row = catalog.get(new Key(parent, name));
        if (row == null || !isFolder(toParent)) return -3;
        if (row[0] == 1) {
            for (int up = toParent; up != 2; up = catalog.get(new Key(up, -1))[1]) {
                if (up == row[1]) return -7;
            }
        }
        if (parent == toParent && name == toName) return row[1];
        if (catalog.containsKey(new Key(toParent, toName))) return -4;
        catalog.remove(new Key(parent, name));
        catalog.put(new Key(toParent, toName), row);
        int[] thread = catalog.get(new Key(row[1], -1));
        thread[1] = toParent;
        thread[2] = toName;
        addToValence(parent, -1);
        addToValence(toParent, 1);
        return row[1];
    }

    int find(int parent, int name) {
        if (!mounted) return -1;
        if (name < 0 || name > 99) return -2;
        if (!isFolder(parent)) return -3;
        int[] row = catalog.get(new Key(parent, name));
        return row == null ? -3 : row[1];
    }

    int grow(int id, int n) {
        if (!mounted) return -1;
        if (n < 1 || n > 48) return -2;
        List<Integer> list = list(id);
        if (list == null) return -3;
        if (48 - used.size() < n) return -8;
        for (int k = 0; k < n; k++) {
            int pick = list.isEmpty() ? 48 : list.get(list.size() - 1) + 1;
            if (pick > 47 || used.contains(pick)) {
                pick = 0;
                while (used.contains(pick)) pick++;
            }
            used.add(pick);
            list.add(pick);
        }
        return noteSize(id, list);
    }

    int shrink(int id, int n) {
        if (!mounted) return -1;
        if (n < 1 || n > 48) return -2;
        List<Integer> list = list(id);
        if (list == null) return -3;
        if (n > list.size()) return -2;
        for (int k = 0; k < n; k++) used.remove(list.remove(list.size() - 1));
        return noteSize(id, list);
    }

    int size(int id) {
        if (!mounted) return -1;
        return list(id) == null ? -3 : list(id).size();
    }

    int block(int id, int i) {
        if (!mounted) return -1;
        if (list(id) == null) return -3;
        return i < 0 || i >= list(id).size() ? -2 : list(id).get(i);
    }

    int extents(int id) {
        if (!mounted) return -1;
        return list(id) == null ? -3 : cut(list(id)).size();
    }

    int valence(int id) {
        if (!mounted) return -1;
        if (id == 2) return rootValence;
        return isFolder(id) ? own(id)[2] : -3;
    }

    int records() {
        return catalog.size();
    }

    int row(int i, int which) {
        if (i < 0 || i >= catalog.size() || which < 0 || which > 4) return -2;
        Map.Entry<Key, int[]> at = new ArrayList<>(catalog.entrySet()).get(i);
        if (which == 0) return at.getKey().id();
        return which == 1 ? at.getKey().name() : at.getValue()[which - 2];
    }

    int overflows() {
        return allOverflows().size();
    }

    int overflow(int i, int which) {
        List<int[]> all = allOverflows();
        return i < 0 || i >= all.size() || which < 0 || which > 3 ? -2 : all.get(i)[which];
    }

    boolean unmount() {
        boolean answer = mounted;
        mounted = false;
        return answer;
    }

    boolean harm(int what, int a) {
        if (mounted) return false;
        if (what == 0 && isFolder(a)) {
            addToValence(a, 1);
            return true;
        }
        if (what == 1 && a >= 0 && a < 48) {
            if (!used.remove(a)) used.add(a);
            return true;
        }
        if (what == 2) return catalog.remove(new Key(a, -1)) != null;
        return what == 3 && linkCounts.computeIfPresent(a, (id, count) -> count + 1) != null;
    }

    int check() {
        int[] wrong = wrongs();
        int sum = 0;
        for (int bit = 0; bit < 5; bit++) {
            if (wrong[bit] > 0) sum += 1 << bit;
        }
        return sum;
    }

    boolean mount() {
        if (mounted) return false;
        mounted = check() == 0;
        return mounted;
    }

    int mend() {
        if (mounted) return -1;
        int sum = 0;
        for (int count : wrongs()) sum += count;
        rootValence = entriesIn(2);
        for (Map.Entry<Key, int[]> at : new ArrayList<>(catalog.entrySet())) {
            int[] row = at.getValue();
            if (row[0] == 1) row[2] = entriesIn(row[1]);
            if (row[0] <= 3) {
                int kind = row[0] == 1 ? 4 : 5;
                catalog.put(new Key(row[1], -1), new int[] {kind, at.getKey().id(), at.getKey().name()});
            }
        }
        linkCounts.replaceAll((id, count) -> linksFor(id));
        used.clear();
        lists.values().forEach(used::addAll);
        return sum;
    }

    /** Per bit of check: how many things are wrong. */
    private int[] wrongs() {
        int[] wrong = new int[5];
        if (rootValence != entriesIn(2)) wrong[0]++;
        Set<Integer> listed = new HashSet<>();
        for (List<Integer> list : lists.values()) listed.addAll(list);
        for (int b = 0; b < 48; b++) {
            if (listed.contains(b) && !used.contains(b)) wrong[1]++;
            if (!listed.contains(b) && used.contains(b)) wrong[2]++;
        }
        for (int[] row : catalog.values()) {
            if (row[0] == 1 && row[2] != entriesIn(row[1])) wrong[0]++;
            if (row[0] <= 3 && !catalog.containsKey(new Key(row[1], -1))) wrong[3]++;
        }
        for (Map.Entry<Integer, Integer> count : linkCounts.entrySet()) {
            if (count.getValue() != linksFor(count.getKey())) wrong[4]++;
        }
        return wrong;
    }

    private int entries() {
        int count = 0;
        for (Map.Entry<Key, int[]> at : catalog.entrySet()) {
            if (at.getValue()[0] <= 3 && at.getKey().id() != 3) count++;
        }
        return count;
    }

    private int entriesIn(int folder) {
        return catalog.subMap(new Key(folder, 0), new Key(folder, 100)).size();
    }

    private int linksFor(int file) {
        int count = 0;
        for (int[] row : catalog.values()) {
            if (row[0] == 3 && row[2] == file) count++;
        }
        return count;
    }

    private int[] own(int id) {
        for (int[] row : catalog.values()) {
            if (row[0] <= 3 && row[1] == id) return row;
        }
        return null;
    }

    private boolean isFolder(int id) {
        return id == 2 || own(id) != null && own(id)[0] == 1;
    }

    private List<Integer> list(int id) {
        int[] row = own(id);
        if (row == null || row[0] == 1) return null;
        return lists.get(row[0] == 3 ? row[2] : id);
    }

    private int noteSize(int id, List<Integer> list) {
        int[] row = own(id);
        own(row[0] == 3 ? row[2] : id)[2] = list.size();
        return list.size();
    }

    private void addToValence(int folder, int by) {
        if (folder == 2) rootValence += by;
        else own(folder)[2] += by;
    }

    /** The extents of a list: place, first block, how many. */
    private static List<int[]> cut(List<Integer> list) {
        List<int[]> runs = new ArrayList<>();
        for (int i = 0; i < list.size(); i++) {
            int[] last = runs.isEmpty() ? null : runs.get(runs.size() - 1);
            if (last != null && last[1] + last[2] == list.get(i)) last[2]++;
            else runs.add(new int[] {i, list.get(i), 1});
        }
        return runs;
    }

    private List<int[]> allOverflows() {
        List<int[]> all = new ArrayList<>();
        for (Map.Entry<Integer, List<Integer>> at : lists.entrySet()) {
            List<int[]> runs = cut(at.getValue());
            for (int k = 2; k < runs.size(); k++) {
                int[] run = runs.get(k);
                all.add(new int[] {at.getKey(), run[0], run[1], run[2]});
            }
        }
        return all;
    }
}
