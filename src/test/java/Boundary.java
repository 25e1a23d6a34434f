import java.lang.reflect.InvocationTargetException;
import java.lang.reflect.Method;
import java.util.ArrayList;
import java.util.List;
import java.util.TreeMap;
import java.util.function.Consumer;
import java.util.function.Predicate;
import java.util.function.Supplier;
import java.util.function.ToIntFunction;

/** What boundary cases share: each is a method that bears the words of the document that it tests. */
abstract class Boundary {
    static final int ROOT = 2;
    static final int HIDDEN_FOLDER = 3;
    static final int OFFLINE = -1;
    static final int BAD = -2;
    static final int MISSING = -3;
    static final int EXISTS = -4;
    static final int FULL = -5;
    static final int NOT_EMPTY = -6;
    static final int LOOP = -7;
    static final int NO_SPACE = -8;

    static final int FOLDER = 16;
    static final int INNER_FOLDER = 17;
    static final int FILE = 18;
    static final int HIDDEN_FILE = 19;
    static final int LINK = 20;
    static final int SECOND_LINK = 21;
    static final int GONE = 22;
    static final int NEXT = 23;

    /** Just outside 0 .. 99, and far outside. */
    static final int[] NO_NAMES = {-1, 100, Integer.MIN_VALUE, Integer.MAX_VALUE};
    /** Just outside 1 .. 48, and far outside. */
    static final int[] NO_COUNTS = {0, 49, -1, Integer.MIN_VALUE, Integer.MAX_VALUE};
    /** Of a house: ids beside the root's, what is no folder, what is there no more and not yet. */
    static final int[] NO_FOLDERS = {-1, 0, 1, HIDDEN_FOLDER, 4, 15, FILE, HIDDEN_FILE, LINK, SECOND_LINK,
        GONE, NEXT, Integer.MIN_VALUE, Integer.MAX_VALUE};
    static final int[] NO_FILES = {-1, 0, 1, ROOT, HIDDEN_FOLDER, 4, 15, FOLDER, INNER_FOLDER, GONE, NEXT,
        Integer.MIN_VALUE, Integer.MAX_VALUE};

    private static final int LOG_SHOWN = 40;

    private final List<String> log = new ArrayList<>();
    private Checks checks;
    private String title;
    private int done;

    /** Runs every case of a class, each on an object of its own. */
    static void run(Supplier<? extends Boundary> maker) throws IllegalAccessException {
        Checks checks = new Checks();
        TreeMap<String, Method> cases = new TreeMap<>();
        for (Method method : maker.get().getClass().getDeclaredMethods()) {
            if (method.isAnnotationPresent(Says.class)) {
                cases.put(method.getName(), method);
            }
        }
        for (Method method : cases.values()) {
            Boundary fresh = maker.get();
            fresh.play(method, checks);
        }
        System.out.println(cases.size() + " boundary cases");
        checks.close();
    }

    private void play(Method method, Checks counting) throws IllegalAccessException {
        Says says = method.getAnnotation(Says.class);
        checks = counting;
        title = method.getName() + " (promise " + says.promise() + ": \"" + says.words() + "\")";
        try {
            method.invoke(this);
        } catch (InvocationTargetException thrown) {
            checks.due(title + " after " + lastCall() + " threw " + thrown.getCause() + ", so it", 0, 1);
        }
        if (done == 0) {
            checks.due(title + " looks at nothing, so it", 0, 1);
        }
    }

    private String lastCall() {
        return log.isEmpty() ? "nothing" : log.get(log.size() - 1);
    }

    final void is(int want, int got) {
        done++;
        checks.due(title + " " + lastCall(), want, got);
        if (want != got) {
            System.out.println("  after " + log.subList(Math.max(0, log.size() - LOG_SHOWN), log.size()));
        }
    }

    final void is(boolean want, boolean got) {
        is(want ? 1 : 0, got ? 1 : 0);
    }

    /** The record i, whole. */
    final void isRow(Volume v, int i, int... want) {
        for (int which = 0; which < 5; which++) {
            is(want[which], v.row(i, which));
        }
    }

    /** The overflow record i, whole. */
    final void isOverflow(Volume v, int i, int... want) {
        for (int which = 0; which < 4; which++) {
            is(want[which], v.overflow(i, which));
        }
    }

    /** The blocks of a file, all of them. */
    final void isList(Volume v, int id, int... want) {
        is(want.length, v.size(id));
        for (int i = 0; i < want.length; i++) {
            is(want[i], v.block(id, i));
        }
    }

    final Volume volume() {
        return new Volume(log);
    }

    final Volume volume(Consumer<Volume> before) {
        Volume v = volume();
        before.accept(v);
        return v;
    }

    /** The call answers so, and changes nothing: afterwards the volume is like one that it was spared. */
    final void refuses(int answer, Consumer<Volume> before, ToIntFunction<Volume> call) {
        Volume called = volume(before);
        is(answer, call.applyAsInt(called));
        isLike(called, volume(before));
    }

    final void refuses(Consumer<Volume> before, Predicate<Volume> call) {
        refuses(0, before, v -> call.test(v) ? 1 : 0);
    }

    /** Whether two volumes are in the same state. Uses both up. */
    final void isLike(Volume one, Volume other) {
        List<String> first = Portrait.of(one);
        List<String> second = Portrait.of(other);
        done++;
        checks.due(title + " changed something", true, first.equals(second));
        if (!first.equals(second)) {
            List<String> changed = new ArrayList<>(first);
            changed.removeAll(second);
            System.out.println("  only in the first: " + changed + ", after " + log.subList(0, Math.min(log.size(), LOG_SHOWN)));
        }
    }

    /**
     * In the root folder 16 (name 1), file 18 (name 2, blocks 0 and 1) and link 20 (name 3); in the
     * folder an empty folder 17 (name 0) and link 21 (name 4); hidden file 19 (block 2); id 22 is gone
     * again. Five entries; the next id is 23.
     */
    static void house(Volume v) {
        v.make(ROOT, 1, true);
        v.make(FOLDER, 0, true);
        v.make(ROOT, 2, false);
        v.grow(FILE, 2);
        v.make(ROOT, 3, false);
        v.grow(HIDDEN_FILE, 1);
        v.link(ROOT, 3, FOLDER, 4);
        v.make(ROOT, 9, true);
        v.remove(ROOT, 9);
    }

    /** The house with files 50, 51, .. in the root, up to 20 entries; ids up to 37. */
    static void fullHouse(Volume v) {
        house(v);
        for (int name = 50; name < 65; name++) {
            v.make(ROOT, name, false);
        }
    }

    /** The house with all 48 blocks used: the file has those from 3 on too. */
    static void usedUp(Volume v) {
        house(v);
        v.grow(FILE, 45);
    }

    static Consumer<Volume> offline(Consumer<Volume> before) {
        return before.andThen(Volume::unmount);
    }
}
