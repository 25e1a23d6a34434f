import java.util.ArrayList;
import java.util.List;

/** Long runs of calls, the same in every run of this test, on the class and on the model. */
public final class ModelTest {
    private static final int RUNS = 4000;
    private static final int MOST_CALLS = 512;
    private static final int[] ODD = {-1, 0, 1, 2, 3, 4, 15, 16, 47, 48, 49, 99, 100,
        Integer.MIN_VALUE, Integer.MAX_VALUE};

    private final Checks checks;
    private final CatalogVolume volume = new CatalogVolume();
    private final PlainModel model = new PlainModel();
    private final List<String> calls = new ArrayList<>();
    private final int names;
    private final int folderPercent;
    private long seed;
    private int highestId = 17;
    private int aimFolder;
    private int aimName;

    private ModelTest(Checks checks, int run) {
        this.checks = checks;
        seed = run * 7919L + 12345L;
        names = 2 + run % 30;
        folderPercent = run % 5 * 15;
    }

    public static void main(String[] args) {
        Checks checks = new Checks();
        for (int run = 0; run < RUNS && checks.allRight(); run++) {
            new ModelTest(checks, run).play(run % 4 == 0 ? 500 : 20 + run % 90);
        }
        checks.close();
    }

    private void play(int length) {
        for (int i = 0; i < length && checks.allRight(); i++) {
            step();
        }
        compareRows();
        if (!checks.allRight()) {
            calls.forEach(System.out::println);
        }
    }

    private void step() {
        int dice = pick(100);
        if (dice < 17) {
            make();
        } else if (dice < 27) {
            link();
        } else if (dice < 36) {
            aim();
            int parent = aimFolder;
            int name = aimName;
            due("remove(" + parent + ", " + name + ")", model.remove(parent, name), volume.remove(parent, name));
        } else if (dice < 45) {
            move();
        } else if (dice < 67) {
            blocks(dice);
        } else if (dice < 72) {
            offline();
        } else {
            look(dice);
        }
    }

    private void make() {
        int parent = folder();
        int name = name();
        boolean isFolder = pick(100) < folderPercent;
        int id = model.make(parent, name, isFolder);
        due("make(" + parent + ", " + name + ", " + isFolder + ")", id, volume.make(parent, name, isFolder));
        highestId = Math.max(highestId, id);
    }

    private void link() {
        aim();
        int parent = aimFolder;
        int name = aimName;
        int toParent = folder();
        int toName = name();
        int id = model.link(parent, name, toParent, toName);
        due("link(" + parent + ", " + name + ", " + toParent + ", " + toName + ")", id,
                volume.link(parent, name, toParent, toName));
        highestId = Math.max(highestId, id);
    }

    private void move() {
        aim();
        int parent = aimFolder;
        int name = aimName;
        int toParent = pick(8) == 0 ? parent : folder();
        int toName = pick(8) == 0 ? name : name();
        due("move(" + parent + ", " + name + ", " + toParent + ", " + toName + ")",
                model.move(parent, name, toParent, toName), volume.move(parent, name, toParent, toName));
    }

    private void blocks(int dice) {
        int id = id();
        int n = pick(20) == 0 ? odd() : 1 + pick(pick(4) == 0 ? 12 : 3);
        if (dice < 59) {
            due("grow(" + id + ", " + n + ")", model.grow(id, n), volume.grow(id, n));
        } else {
            due("shrink(" + id + ", " + n + ")", model.shrink(id, n), volume.shrink(id, n));
        }
    }

    /** A stay offline with some harm, with or without mending; it may end with the volume offline. */
    private void offline() {
        due("unmount()", model.unmount(), volume.unmount());
        int harms = pick(5);
        for (int i = 0; i < harms; i++) {
            harm();
        }
        due("check()", model.check(), volume.check());
        if (pick(3) == 0) {
            due("mount()", model.mount(), volume.mount());
        }
        if (pick(8) != 0) {
            due("mend()", model.mend(), volume.mend());
            due("check()", model.check(), volume.check());
            due("mount()", model.mount(), volume.mount());
        }
    }

    private void harm() {
        int what = pick(12) == 0 ? odd() : pick(4);
        int a = what == 1 ? pick(48) : id();
        if (pick(10) == 0) {
            a = odd();
        }
        due("harm(" + what + ", " + a + ")", model.harm(what, a), volume.harm(what, a));
    }

    private void look(int dice) {
        int id = id();
        int i = pick(10) == 0 ? odd() : pick(30);
        int which = pick(10) == 0 ? odd() : pick(6);
        switch (dice % 14) {
            case 0 -> find();
            case 1 -> due("size(" + id + ")", model.size(id), volume.size(id));
            case 2 -> due("block(" + id + ", " + i + ")", model.block(id, i), volume.block(id, i));
            case 3 -> due("extents(" + id + ")", model.extents(id), volume.extents(id));
            case 4 -> due("valence(" + id + ")", model.valence(id), volume.valence(id));
            case 5 -> due("records()", model.records(), volume.records());
            case 6 -> due("row(" + i + ", " + which + ")", model.row(i, which), volume.row(i, which));
            case 7 -> due("overflows()", model.overflows(), volume.overflows());
            case 8 -> due("overflow(" + i + ", " + which + ")", model.overflow(i, which), volume.overflow(i, which));
            case 9 -> due("check()", model.check(), volume.check());
            case 10 -> due("mount()", model.mount(), volume.mount());
            case 11 -> due("mend()", model.mend(), volume.mend());
            case 12 -> harm();
            default -> due("valence(2)", model.valence(2), volume.valence(2));
        }
    }

    private void find() {
        aim();
        int parent = aimFolder;
        int name = aimName;
        due("find(" + parent + ", " + name + ")", model.find(parent, name), volume.find(parent, name));
    }

    /** As many of the rows as the object's 512 calls leave room for. */
    private void compareRows() {
        due("records()", model.records(), volume.records());
        for (int i = 0; i < model.records(); i++) {
            for (int which = 0; which < 5; which++) {
                due("row(" + i + ", " + which + ")", model.row(i, which), volume.row(i, which));
            }
        }
        for (int i = 0; i < model.overflows(); i++) {
            for (int which = 0; which < 4; which++) {
                due("overflow(" + i + ", " + which + ")", model.overflow(i, which), volume.overflow(i, which));
            }
        }
    }

    private void due(String call, int want, int got) {
        if (calls.size() < MOST_CALLS) {
            calls.add(call + " = " + want);
            checks.due(call, want, got);
        }
    }

    private void due(String call, boolean want, boolean got) {
        due(call, want ? 1 : 0, got ? 1 : 0);
    }

    private int pick(int bound) {
        seed = seed * 6364136223846793005L + 1442695040888963407L;
        return (int) ((seed >>> 33) % bound);
    }

    private int odd() {
        return ODD[pick(ODD.length)];
    }

    private int name() {
        return pick(25) == 0 ? odd() : pick(names);
    }

    private int folder() {
        int id = pick(100) < 40 ? 2 : id();
        for (int i = 0; i < 5 && model.valence(id) < 0 && pick(20) != 0; i++) {
            id = id();
        }
        return id;
    }

    private int id() {
        int records = model.records();
        if (records == 0 || pick(6) == 0) {
            return pick(4) == 0 ? odd() : Math.max(16, highestId + 1 - pick(26));
        }
        int at = pick(records);
        return model.row(at, 2) <= 3 ? model.row(at, 3) : model.row(at, 0);
    }

    /** Sets a folder and a name, mostly those of something that is there (a hidden file too). */
    private void aim() {
        aimFolder = folder();
        aimName = name();
        int records = model.records();
        if (records > 0 && pick(6) != 0) {
            int at = pick(records);
            boolean thread = model.row(at, 2) > 3;
            aimFolder = model.row(at, thread ? 3 : 0);
            aimName = model.row(at, thread ? 4 : 1);
        }
    }
}
