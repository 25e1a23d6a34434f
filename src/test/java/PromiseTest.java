/** Every promise by its number: ordinary inputs, the edges that the document names, wrong inputs. */
public final class PromiseTest {
    private static final int ROOT = 2;
    private static final int HIDDEN_FOLDER = 3;
    private static final int OFFLINE = -1;
    private static final int BAD = -2;
    private static final int MISSING = -3;
    private static final int EXISTS = -4;
    private static final int FULL = -5;
    private static final int NOT_EMPTY = -6;
    private static final int LOOP = -7;
    private static final int NO_SPACE = -8;
    private static final int[] FAR = {Integer.MIN_VALUE, -100, Integer.MAX_VALUE};

    private final Checks checks = new Checks();
    private CatalogVolume v;

    public static void main(String[] args) {
        PromiseTest test = new PromiseTest();
        test.namesAndBlocks();
        test.recordsAndOverflows();
        test.offlineCalls();
        test.checks.close();
    }

    private void namesAndBlocks() {
        newObject();
        makeGivesIds();
        makeRefuses();
        linkOfAFile();
        linkOfALink();
        linkRefuses();
        linkUpToTheLimit();
        removeTakesAway();
        removeRefuses();
        moveMoves();
        moveRefuses();
        findFinds();
        growTakesBlocks();
        growRefuses();
        shrinkGivesBack();
        sizeAndBlock();
        extentsAreRuns();
        valenceIsKept();
    }

    private void recordsAndOverflows() {
        recordsAndRows();
        rowsOfAHiddenFile();
        rowsAtTheLimit();
        overflowRecords();
        overflowOfHiddenFiles();
    }

    private void offlineCalls() {
        unmountAndMount();
        offlineComesFirst();
        harmRefuses();
        harmOfValences();
        harmOfTheMap();
        harmOfThreads();
        harmOfLinkCounts();
        mendAllAtOnce();
        mendedVolumeWorks();
    }

    private void due(String what, int want, int got) {
        checks.due(what, want, got);
    }

    private void due(String what, boolean want, boolean got) {
        checks.due(what, want, got);
    }

    private void dueRow(String what, int i, int... want) {
        for (int which = 0; which < want.length; which++) {
            due(what + ": row(" + i + ", " + which + ")", want[which], v.row(i, which));
        }
    }

    private void dueOverflow(String what, int i, int... want) {
        for (int which = 0; which < want.length; which++) {
            due(what + ": overflow(" + i + ", " + which + ")", want[which], v.overflow(i, which));
        }
    }

    private void fresh() {
        v = new CatalogVolume();
    }

    /** Promise 1. */
    private void newObject() {
        fresh();
        due("1 records", 0, v.records());
        due("1 overflows", 0, v.overflows());
        due("1 valence", 0, v.valence(ROOT));
        due("1 check", 0, v.check());
        due("1 nothing there", MISSING, v.find(ROOT, 0));
        due("1 all blocks are free", 48, v.grow(v.make(ROOT, 0, false), 48));
        fresh();
        due("1 mounted", false, v.mount());
        due("1 mounted, so it can be unmounted", true, v.unmount());
        CatalogVolume other = new CatalogVolume();
        due("1 nothing is shared", 16, other.make(ROOT, 0, true));
    }

    /** Promise 2. */
    private void makeGivesIds() {
        fresh();
        due("2 folder", 16, v.make(ROOT, 0, true));
        due("2 file", 17, v.make(ROOT, 99, false));
        due("2 in a folder", 18, v.make(16, 0, true));
        due("2 deeper", 19, v.make(18, 0, false));
        due("2 a file has no blocks", 0, v.size(17));
        due("2 a folder is no file", MISSING, v.size(16));
        due("2 a file is no folder", MISSING, v.valence(17));
        due("2 a folder is empty", 0, v.make(18, 50, true) == 20 ? v.valence(20) : -99);
        v.remove(18, 50);
        due("2 ids are never used again", 21, v.make(18, 50, true));
        v.make(ROOT, 99, true);
        due("2 a refusal takes no id", 22, v.make(ROOT, 1, true));
    }

    private void makeRefuses() {
        fresh();
        int file = v.make(ROOT, 7, false);
        due("2 name -1", BAD, v.make(ROOT, -1, true));
        due("2 name 100", BAD, v.make(ROOT, 100, true));
        due("2 BAD before MISSING", BAD, v.make(99, 100, true));
        due("2 hidden folder", MISSING, v.make(HIDDEN_FOLDER, 1, false));
        due("2 a file as parent", MISSING, v.make(file, 1, false));
        due("2 no such parent", MISSING, v.make(17, 1, false));
        for (int far : FAR) {
            due("2 far parent", MISSING, v.make(far, 1, false));
            due("2 far name", BAD, v.make(ROOT, far, false));
        }
        due("2 EXISTS", EXISTS, v.make(ROOT, 7, true));
        fill(20);
        due("2 EXISTS before FULL", EXISTS, v.make(ROOT, 7, false));
        due("2 FULL", FULL, v.make(ROOT, 98, false));
        due("2 MISSING before FULL", MISSING, v.make(file, 98, false));
        v.remove(ROOT, 7);
        due("2 room again", 36, v.make(ROOT, 98, false));
        due("2 FULL again", FULL, v.make(ROOT, 97, true));
    }

    /** Fills the volume with files in the root, names 50 and on, until it has that many entries. */
    private void fill(int entries) {
        int name = 50;
        for (int have = v.valence(ROOT); have < entries; have++) {
            v.make(ROOT, name, false);
            name++;
        }
    }

    /** Promise 3. */
    private void linkOfAFile() {
        fresh();
        int folder = v.make(ROOT, 1, true);
        int file = v.make(ROOT, 2, false);
        v.grow(file, 5);
        due("3 id of the new link", 19, v.link(ROOT, 2, folder, 3));
        due("3 a link in the file's place", 18, v.find(ROOT, 2));
        due("3 the new link", 19, v.find(folder, 3));
        due("3 the file's id stays", 5, v.size(file));
        due("3 its blocks stay", 4, v.block(file, 4));
        due("3 link means its file", 5, v.size(18));
        due("3 the other one too", 5, v.size(19));
        due("3 grow by a link", 7, v.grow(19, 2));
        due("3 shrink by the other", 1, v.shrink(18, 6));
        due("3 seen by all", 1, v.size(file));
        due("3 valence of the first folder stays", 2, v.valence(ROOT));
        due("3 valence of the second grows", 1, v.valence(folder));
        due("3 a hidden file lies in no folder", MISSING, v.find(HIDDEN_FOLDER, 17));
        due("3 a link is no folder", MISSING, v.make(18, 0, false));
        due("3 all fits", 0, v.check());
        due("3 next id", 20, v.make(ROOT, 9, false));
        due("3 in the same folder", 22, v.link(ROOT, 9, ROOT, 10));
        due("3 valence of that", 4, v.valence(ROOT));
    }

    private void linkOfALink() {
        fresh();
        int file = v.make(ROOT, 2, false);
        v.link(ROOT, 2, ROOT, 3);
        due("3 a link's link takes one id", 19, v.link(ROOT, 3, ROOT, 4));
        due("3 the link stays", 18, v.find(ROOT, 3));
        due("3 for the same file", 3, v.grow(file, 3) == 3 ? v.size(19) : -99);
        due("3 records", 8, v.records());
        v.remove(ROOT, 2);
        v.remove(ROOT, 3);
        due("3 one link is left", 3, v.size(19));
        due("3 and a link again", 20, v.link(ROOT, 4, ROOT, 2));
        due("3 fits", 0, v.check());
    }

    private void linkRefuses() {
        fresh();
        int folder = v.make(ROOT, 1, true);
        int file = v.make(ROOT, 2, false);
        due("3 name -1", BAD, v.link(ROOT, -1, ROOT, 5));
        due("3 name 100", BAD, v.link(ROOT, 100, ROOT, 5));
        due("3 toName -1", BAD, v.link(ROOT, 2, ROOT, -1));
        due("3 toName 100", BAD, v.link(ROOT, 2, ROOT, 100));
        due("3 BAD before MISSING", BAD, v.link(99, 2, ROOT, 100));
        due("3 no such folder", MISSING, v.link(99, 2, ROOT, 5));
        due("3 a file as folder", MISSING, v.link(file, 2, ROOT, 5));
        due("3 no such name", MISSING, v.link(ROOT, 3, ROOT, 5));
        due("3 a folder under it", MISSING, v.link(ROOT, 1, ROOT, 5));
        due("3 a folder under it, name taken", MISSING, v.link(ROOT, 1, ROOT, 2));
        due("3 no such toParent", MISSING, v.link(ROOT, 2, 99, 5));
        due("3 a file as toParent", MISSING, v.link(ROOT, 2, file, 5));
        due("3 hidden folder as toParent", MISSING, v.link(ROOT, 2, HIDDEN_FOLDER, 5));
        due("3 EXISTS", EXISTS, v.link(ROOT, 2, ROOT, 1));
        due("3 EXISTS, its own name", EXISTS, v.link(ROOT, 2, ROOT, 2));
        due("3 nothing has changed", 17, v.find(ROOT, 2));
        due("3 nor the records", 4, v.records());
        due("3 no id is taken", 19, v.link(ROOT, 2, folder, 2));
        due("3 not from the hidden folder", MISSING, v.link(HIDDEN_FOLDER, file, ROOT, 6));
        for (int far : FAR) {
            due("3 far folder", MISSING, v.link(far, 2, ROOT, 5));
            due("3 far toParent", MISSING, v.link(ROOT, 2, far, 5));
        }
    }

    private void linkUpToTheLimit() {
        fresh();
        v.make(ROOT, 2, false);
        fill(19);
        due("3 the 20th entry", 36, v.link(ROOT, 2, ROOT, 3));
        due("3 EXISTS before FULL", EXISTS, v.link(ROOT, 2, ROOT, 3));
        due("3 FULL for a link", FULL, v.link(ROOT, 2, ROOT, 4));
        due("3 FULL for a file", FULL, v.link(ROOT, 50, ROOT, 4));
        due("3 MISSING before FULL", MISSING, v.link(ROOT, 4, ROOT, 5));
        due("3 hidden files are no entries", 36, v.remove(ROOT, 3));
        due("3 so there is room", 37, v.make(ROOT, 4, true));
        due("3 and no more", FULL, v.make(ROOT, 5, true));
    }

    /** Promise 4. */
    private void removeTakesAway() {
        fresh();
        int folder = v.make(ROOT, 1, true);
        int file = v.make(folder, 2, false);
        v.grow(file, 10);
        due("4 file", file, v.remove(folder, 2));
        due("4 it is gone", MISSING, v.find(folder, 2));
        due("4 by its id too", MISSING, v.size(file));
        due("4 valence", 0, v.valence(folder));
        due("4 folder", folder, v.remove(ROOT, 1));
        due("4 no folder any more", MISSING, v.valence(folder));
        due("4 no records", 0, v.records());
        due("4 fits", 0, v.check());
        int again = v.make(ROOT, 1, false);
        due("4 its blocks are free", 48, v.grow(again, 48));
        due("4 a new file", 0, v.block(again, 0));
        v.link(ROOT, 1, ROOT, 2);
        due("4 first link", 19, v.remove(ROOT, 1));
        due("4 the hidden file stays", 48, v.size(again));
        due("4 with its blocks", NO_SPACE, v.grow(again, 1));
        due("4 last link", 20, v.remove(ROOT, 2));
        due("4 the hidden file is gone", MISSING, v.size(again));
        due("4 and its records", 0, v.records());
        due("4 and its blocks", 48, v.grow(v.make(ROOT, 1, false), 48));
        due("4 and all fits", 0, v.check());
    }

    private void removeRefuses() {
        fresh();
        int folder = v.make(ROOT, 1, true);
        int file = v.make(folder, 2, false);
        due("4 name -1", BAD, v.remove(ROOT, -1));
        due("4 name 100", BAD, v.remove(ROOT, 100));
        due("4 BAD before MISSING", BAD, v.remove(99, 100));
        due("4 no such folder", MISSING, v.remove(99, 1));
        due("4 a file as folder", MISSING, v.remove(file, 1));
        due("4 no such name", MISSING, v.remove(ROOT, 2));
        due("4 NOT_EMPTY", NOT_EMPTY, v.remove(ROOT, 1));
        v.link(folder, 2, folder, 3);
        due("4 not from the hidden folder", MISSING, v.remove(HIDDEN_FOLDER, file));
        due("4 NOT_EMPTY with links", NOT_EMPTY, v.remove(ROOT, 1));
        v.remove(folder, 2);
        v.remove(folder, 3);
        due("4 empty again", folder, v.remove(ROOT, 1));
        v.make(v.make(ROOT, 5, true), 5, true);
        due("4 NOT_EMPTY with a folder", NOT_EMPTY, v.remove(ROOT, 5));
        for (int far : FAR) {
            due("4 far folder", MISSING, v.remove(far, 1));
            due("4 far name", BAD, v.remove(ROOT, far));
        }
    }

    /** Promise 5. */
    private void moveMoves() {
        fresh();
        int folder = v.make(ROOT, 1, true);
        int file = v.make(ROOT, 2, false);
        v.grow(file, 3);
        due("5 into a folder", file, v.move(ROOT, 2, folder, 9));
        due("5 it is there", file, v.find(folder, 9));
        due("5 and not here", MISSING, v.find(ROOT, 2));
        due("5 with its blocks", 3, v.size(file));
        due("5 valence less", 1, v.valence(ROOT));
        due("5 valence more", 1, v.valence(folder));
        dueRow("5 own record", 2, folder, 9, 2, file, 3);
        dueRow("5 its thread", 3, file, -1, 5, folder, 9);
        due("5 another name", file, v.move(folder, 9, folder, 0));
        due("5 valence stays", 1, v.valence(folder));
        due("5 nothing done", file, v.move(folder, 0, folder, 0));
        due("5 valence after nothing", 1, v.valence(folder));
        v.link(folder, 0, folder, 1);
        due("5 a link moves as it is", 18, v.move(folder, 0, ROOT, 7));
        due("5 for the same file", 3, v.size(18));
        due("5 a folder with entries", folder, v.move(ROOT, 1, ROOT, 8));
        due("5 what lies in it goes along", 19, v.find(folder, 1));
        due("5 fits", 0, v.check());
    }

    private void moveRefuses() {
        fresh();
        int outer = v.make(ROOT, 1, true);
        int middle = v.make(outer, 1, true);
        int inner = v.make(middle, 1, true);
        int file = v.make(ROOT, 2, false);
        due("5 name", BAD, v.move(ROOT, 100, ROOT, 3));
        due("5 name -1", BAD, v.move(ROOT, -1, ROOT, 3));
        due("5 toName", BAD, v.move(ROOT, 1, ROOT, 100));
        due("5 toName -1", BAD, v.move(ROOT, 1, ROOT, -1));
        due("5 BAD before MISSING", BAD, v.move(99, 1, 99, 100));
        due("5 no such folder", MISSING, v.move(99, 1, ROOT, 3));
        due("5 no such name", MISSING, v.move(ROOT, 3, ROOT, 4));
        due("5 no such name, the same place", MISSING, v.move(ROOT, 3, ROOT, 3));
        due("5 no such toParent", MISSING, v.move(ROOT, 1, 99, 3));
        due("5 a file as toParent", MISSING, v.move(ROOT, 1, file, 3));
        due("5 into the hidden folder", MISSING, v.move(ROOT, 2, HIDDEN_FOLDER, 3));
        due("5 LOOP into itself", LOOP, v.move(ROOT, 1, outer, 3));
        due("5 LOOP deeper", LOOP, v.move(ROOT, 1, middle, 3));
        due("5 LOOP deepest", LOOP, v.move(ROOT, 1, inner, 3));
        due("5 LOOP before EXISTS", LOOP, v.move(ROOT, 1, outer, 1));
        due("5 EXISTS", EXISTS, v.move(ROOT, 2, ROOT, 1));
        due("5 EXISTS elsewhere", EXISTS, v.move(ROOT, 2, outer, 1));
        due("5 out again is no LOOP", inner, v.move(middle, 1, ROOT, 4));
        due("5 beside is no LOOP", outer, v.move(ROOT, 1, inner, 0));
        due("5 now it is", LOOP, v.move(ROOT, 4, middle, 0));
        due("5 a file makes no LOOP", file, v.move(ROOT, 2, middle, 2));
        due("5 fits", 0, v.check());
        fresh();
        int at = ROOT;
        for (int i = 0; i < 20; i++) {
            at = v.make(at, 0, true);
        }
        due("5 LOOP at twenty folders' depth", LOOP, v.move(ROOT, 0, at, 0));
        due("5 a full volume is no refusal", 16, v.move(ROOT, 0, ROOT, 1));
    }

    /** Promise 6. */
    private void findFinds() {
        fresh();
        int folder = v.make(ROOT, 0, true);
        int file = v.make(folder, 99, false);
        due("6 folder", folder, v.find(ROOT, 0));
        due("6 file", file, v.find(folder, 99));
        due("6 no such name", MISSING, v.find(ROOT, 99));
        due("6 no such folder", MISSING, v.find(99, 0));
        due("6 a file as folder", MISSING, v.find(file, 0));
        due("6 name -1", BAD, v.find(ROOT, -1));
        due("6 name 100", BAD, v.find(ROOT, 100));
        due("6 BAD before MISSING", BAD, v.find(99, 100));
        v.link(folder, 99, ROOT, 17);
        due("6 not in the hidden folder", MISSING, v.find(HIDDEN_FOLDER, file));
        due("6 a link's own id", 19, v.find(ROOT, 17));
    }

    /** Promise 7. */
    private void growTakesBlocks() {
        fresh();
        int a = v.make(ROOT, 1, false);
        int b = v.make(ROOT, 2, false);
        due("7 first block", 1, v.grow(a, 1));
        due("7 from 0", 0, v.block(a, 0));
        due("7 another file", 2, v.grow(b, 2));
        due("7 lowest free", 1, v.block(b, 0));
        due("7 the next", 2, v.block(b, 1));
        due("7 the next is used", 3, v.grow(a, 2));
        due("7 so the lowest free", 3, v.block(a, 1));
        due("7 and the next", 4, v.block(a, 2));
        v.shrink(b, 2);
        due("7 before lower ones that are free", 5, v.grow(a, 1) == 4 ? v.block(a, 3) : -99);
        due("7 up to the end", 46, v.grow(a, 42));
        due("7 last", 47, v.block(a, 45));
        due("7 no block after 47", 48, v.grow(a, 2));
        due("7 so from the lowest", 1, v.block(a, 46));
        due("7 and on", 2, v.block(a, 47));
        due("7 all are used", NO_SPACE, v.grow(b, 1));
        v.shrink(a, 10);
        due("7 after 39", 10, v.grow(b, 10));
        due("7 the lowest of the free ones", 1, v.block(b, 0));
        fresh();
        v.grow(v.make(ROOT, 1, false), 1);
        int behind = v.make(ROOT, 2, false);
        v.grow(behind, 47);
        v.remove(ROOT, 1);
        due("7 block 0 is the only free one", 0, v.grow(behind, 1) == 48 ? v.block(behind, 47) : -99);
        due("7 fits", 0, v.check());
    }

    private void growRefuses() {
        fresh();
        int folder = v.make(ROOT, 1, true);
        int file = v.make(ROOT, 2, false);
        due("7 n 0", BAD, v.grow(file, 0));
        due("7 n 49", BAD, v.grow(file, 49));
        due("7 BAD before MISSING", BAD, v.grow(99, 0));
        due("7 no such file", MISSING, v.grow(99, 1));
        due("7 folder", MISSING, v.grow(folder, 1));
        due("7 root", MISSING, v.grow(ROOT, 1));
        due("7 hidden folder", MISSING, v.grow(HIDDEN_FOLDER, 1));
        for (int far : FAR) {
            due("7 far n", BAD, v.grow(file, far));
            due("7 far id", MISSING, v.grow(far, 1));
        }
        due("7 all of them", 48, v.grow(file, 48));
        v.shrink(file, 3);
        due("7 one too many", NO_SPACE, v.grow(file, 4));
        due("7 nothing is taken", 45, v.size(file));
        due("7 MISSING before NO_SPACE", MISSING, v.grow(99, 4));
        due("7 the rest", 48, v.grow(file, 3));
        due("7 fits", 0, v.check());
    }

    /** Promise 8. */
    private void shrinkGivesBack() {
        fresh();
        int file = v.make(ROOT, 1, false);
        int other = v.make(ROOT, 2, false);
        v.grow(file, 6);
        due("8 the last two", 4, v.shrink(file, 2));
        due("8 the first stay", 3, v.block(file, 3));
        due("8 the last are gone", BAD, v.block(file, 4));
        due("8 they are free", 4, v.grow(other, 1) == 1 ? v.block(other, 0) : -99);
        due("8 more than it has", BAD, v.shrink(file, 5));
        due("8 nothing is taken", 4, v.size(file));
        due("8 n 0", BAD, v.shrink(file, 0));
        due("8 n 49", BAD, v.shrink(file, 49));
        due("8 range before MISSING", BAD, v.shrink(99, 49));
        due("8 MISSING before too many", MISSING, v.shrink(99, 48));
        due("8 folder", MISSING, v.shrink(ROOT, 1));
        for (int far : FAR) {
            due("8 far n", BAD, v.shrink(file, far));
            due("8 far id", MISSING, v.shrink(far, 1));
        }
        due("8 all", 0, v.shrink(file, 4));
        due("8 none left", BAD, v.shrink(file, 1));
        due("8 the rest is free", 48, v.shrink(other, 1) + v.grow(file, 48));
        due("8 all 48", 0, v.shrink(file, 48));
        due("8 fits", 0, v.check());
    }

    /** Promises 9 and 10. */
    private void sizeAndBlock() {
        fresh();
        int folder = v.make(ROOT, 1, true);
        int file = v.make(ROOT, 2, false);
        due("9 empty", 0, v.size(file));
        due("10 none", BAD, v.block(file, 0));
        v.grow(file, 48);
        due("9 all", 48, v.size(file));
        due("10 first", 0, v.block(file, 0));
        due("10 last", 47, v.block(file, 47));
        due("10 behind the last", BAD, v.block(file, 48));
        due("10 before the first", BAD, v.block(file, -1));
        due("10 MISSING before BAD", MISSING, v.block(folder, -1));
        due("10 no such file", MISSING, v.block(99, 0));
        due("9 folder", MISSING, v.size(folder));
        due("9 root", MISSING, v.size(ROOT));
        due("9 no such file", MISSING, v.size(18));
        for (int far : FAR) {
            due("9 far", MISSING, v.size(far));
            due("10 far id", MISSING, v.block(far, 0));
            due("10 far place", BAD, v.block(file, far));
        }
        v.link(ROOT, 2, folder, 0);
        due("10 by a link", 47, v.block(19, 47));
        due("10 by the hidden file's id", 46, v.block(file, 46));
    }

    /** Promise 11. */
    private void extentsAreRuns() {
        fresh();
        int a = v.make(ROOT, 1, false);
        int b = v.make(ROOT, 2, false);
        due("11 none", 0, v.extents(a));
        v.grow(a, 2);
        due("11 one", 1, v.extents(a));
        v.grow(b, 1);
        v.grow(a, 2);
        due("11 two", 2, v.extents(a));
        v.grow(a, 43);
        v.remove(ROOT, 2);
        due("11 a lower block", 48, v.grow(a, 1));
        due("11 is an extent of its own", 3, v.extents(a));
        v.link(ROOT, 1, ROOT, 3);
        due("11 by a link", 3, v.extents(v.find(ROOT, 3)));
        due("11 folder", MISSING, v.extents(ROOT));
        due("11 no such file", MISSING, v.extents(99));
        v.shrink(a, 46);
        due("11 one again", 1, v.extents(a));
        for (int far : FAR) {
            due("11 far", MISSING, v.extents(far));
        }
    }

    /** Promise 12. */
    private void valenceIsKept() {
        fresh();
        int folder = v.make(ROOT, 1, true);
        int file = v.make(folder, 1, false);
        v.make(folder, 2, true);
        due("12 root", 1, v.valence(ROOT));
        due("12 only what lies in it itself", 2, v.valence(folder));
        v.link(folder, 1, ROOT, 2);
        due("12 a link counts", 2, v.valence(ROOT));
        due("12 a hidden file does not", 2, v.valence(folder));
        due("12 hidden folder", MISSING, v.valence(HIDDEN_FOLDER));
        due("12 file", MISSING, v.valence(file));
        due("12 link", MISSING, v.valence(v.find(ROOT, 2)));
        due("12 no such folder", MISSING, v.valence(99));
        for (int far : FAR) {
            due("12 far", MISSING, v.valence(far));
        }
    }

    /** Promises 13 and 14. */
    private void recordsAndRows() {
        fresh();
        due("14 no record", BAD, v.row(0, 0));
        int folder = v.make(ROOT, 9, true);
        int file = v.make(ROOT, 4, false);
        int inside = v.make(folder, 0, true);
        v.grow(file, 7);
        due("13 two for each", 6, v.records());
        dueRow("14 file", 0, ROOT, 4, 2, file, 7);
        dueRow("14 folder", 1, ROOT, 9, 1, folder, 1);
        dueRow("14 folder's thread", 2, folder, -1, 4, ROOT, 9);
        dueRow("14 what lies in it", 3, folder, 0, 1, inside, 0);
        dueRow("14 file's thread", 4, file, -1, 5, ROOT, 4);
        dueRow("14 inner thread", 5, inside, -1, 4, folder, 0);
        due("14 behind the last", BAD, v.row(6, 0));
        due("14 before the first", BAD, v.row(-1, 0));
        due("14 which -1", BAD, v.row(0, -1));
        due("14 which 5", BAD, v.row(0, 5));
        for (int far : FAR) {
            due("14 far i", BAD, v.row(far, 0));
            due("14 far which", BAD, v.row(0, far));
        }
        v.unmount();
        due("13 not mounted", 6, v.records());
        dueRow("14 not mounted", 0, ROOT, 4, 2, file, 7);
        due("14 not mounted, behind the last", BAD, v.row(6, 0));
    }

    private void rowsOfAHiddenFile() {
        fresh();
        int folder = v.make(ROOT, 1, true);
        int file = v.make(folder, 30, false);
        int other = v.make(ROOT, 2, false);
        v.grow(file, 2);
        v.link(ROOT, 2, folder, 5);
        v.link(folder, 30, ROOT, 0);
        due("13 two for each link and hidden file", 14, v.records());
        dueRow("14 link", 0, ROOT, 0, 3, 22, file);
        dueRow("14 folder", 1, ROOT, 1, 1, folder, 2);
        dueRow("14 link in the file's place", 2, ROOT, 2, 3, 19, other);
        dueRow("14 hidden file", 3, HIDDEN_FOLDER, file, 2, file, 2);
        dueRow("14 second hidden file", 4, HIDDEN_FOLDER, other, 2, other, 0);
        dueRow("14 folder's thread", 5, folder, -1, 4, ROOT, 1);
        dueRow("14 link in the folder", 6, folder, 5, 3, 20, other);
        dueRow("14 link in the folder, in the file's place", 7, folder, 30, 3, 21, file);
        dueRow("14 hidden file's thread", 8, file, -1, 5, HIDDEN_FOLDER, file);
        dueRow("14 second hidden file's thread", 9, other, -1, 5, HIDDEN_FOLDER, other);
        dueRow("14 link's thread", 10, 19, -1, 5, ROOT, 2);
        dueRow("14 link's thread", 13, 22, -1, 5, ROOT, 0);
    }

    /** Nineteen links, each the only one for its hidden file, and a file: as many records as there can be. */
    private void rowsAtTheLimit() {
        fresh();
        for (int i = 0; i < 19; i++) {
            v.make(ROOT, i, false);
            v.link(ROOT, i, ROOT, 99);
            v.remove(ROOT, 99);
        }
        v.make(ROOT, 19, false);
        due("13 nineteen links and a file", 19 * 4 + 2, v.records());
        due("3 FULL", FULL, v.link(ROOT, 19, ROOT, 99));
        v.remove(ROOT, 0);
        v.link(ROOT, 19, ROOT, 99);
        v.remove(ROOT, 19);
        int file = v.make(ROOT, 0, false);
        due("14 last thread", file, v.row(v.records() - 1, 0));
        due("2 FULL", FULL, v.make(ROOT, 98, false));
        due("13 after that", 19 * 4 + 2, v.records());
        due("19 fits", 0, v.check());
    }

    /** Promises 15 and 16. */
    private void overflowRecords() {
        fresh();
        int a = v.make(ROOT, 2, false);
        int b = v.make(ROOT, 1, false);
        due("16 none", BAD, v.overflow(0, 0));
        for (int i = 0; i < 3; i++) {
            due("15 still none", 0, i < 2 ? v.overflows() : 0);
            v.grow(a, 1 + i);
            v.grow(b, 1);
        }
        due("15 one each", 2, v.overflows());
        dueOverflow("16 first", 0, a, 3, 5, 3);
        dueOverflow("16 second file", 1, b, 2, 8, 1);
        v.grow(a, 2);
        dueOverflow("16 ordered by id, then place", 1, a, 6, 9, 2);
        dueOverflow("16 second file is third", 2, b, 2, 8, 1);
        due("16 behind the last", BAD, v.overflow(3, 0));
        due("16 before the first", BAD, v.overflow(-1, 0));
        due("16 which -1", BAD, v.overflow(0, -1));
        due("16 which 4", BAD, v.overflow(0, 4));
        for (int far : FAR) {
            due("16 far i", BAD, v.overflow(far, 0));
            due("16 far which", BAD, v.overflow(0, far));
        }
        v.unmount();
        due("15 not mounted", 3, v.overflows());
        dueOverflow("16 not mounted", 0, a, 3, 5, 3);
        v.mount();
        v.shrink(a, 4);
        dueOverflow("16 a shorter one", 0, a, 3, 5, 1);
        due("15 less", 2, v.overflows());
        v.shrink(a, 1);
        v.remove(ROOT, 1);
        due("15 none again", 0, v.overflows());
    }

    private void overflowOfHiddenFiles() {
        fresh();
        int a = v.make(ROOT, 1, false);
        int b = v.make(ROOT, 2, false);
        v.make(ROOT, 3, true);
        for (int i = 0; i < 4; i++) {
            v.grow(a, 1);
            v.grow(b, 1);
        }
        v.link(ROOT, 1, ROOT, 4);
        due("15 once for a hidden file", 4, v.overflows());
        dueOverflow("16 by its own id", 0, a, 2, 4, 1);
        dueOverflow("16 second", 1, a, 3, 6, 1);
        dueOverflow("16 the other file", 2, b, 2, 5, 1);
        v.remove(ROOT, 1);
        v.remove(ROOT, 4);
        due("15 gone with the last link", 2, v.overflows());
    }

    /** Promises 17 and 20. */
    private void unmountAndMount() {
        fresh();
        due("20 mounted already", false, v.mount());
        due("17 mounted", true, v.unmount());
        due("17 not mounted", false, v.unmount());
        due("20 all fits", true, v.mount());
        due("20 mounted now", false, v.mount());
        int id = v.make(ROOT, 1, false);
        v.grow(id, 3);
        v.unmount();
        v.harm(1, 10);
        due("20 does not fit", false, v.mount());
        due("20 still not mounted", OFFLINE, v.size(id));
        due("17 still not mounted", false, v.unmount());
        v.harm(1, 10);
        due("20 fits again", true, v.mount());
        due("20 all is there", 3, v.size(id));
        due("20 ids go on", 17, v.make(ROOT, 2, false));
    }

    private void offlineComesFirst() {
        fresh();
        int folder = v.make(ROOT, 1, true);
        int file = v.make(ROOT, 2, false);
        v.unmount();
        due("2 OFFLINE", OFFLINE, v.make(ROOT, 3, true));
        due("2 OFFLINE first", OFFLINE, v.make(99, 100, true));
        due("3 OFFLINE", OFFLINE, v.link(ROOT, 2, ROOT, 3));
        due("3 OFFLINE first", OFFLINE, v.link(ROOT, 100, ROOT, 3));
        due("4 OFFLINE", OFFLINE, v.remove(ROOT, 2));
        due("4 OFFLINE first", OFFLINE, v.remove(ROOT, 100));
        due("5 OFFLINE", OFFLINE, v.move(ROOT, 2, folder, 3));
        due("5 OFFLINE first", OFFLINE, v.move(ROOT, 2, folder, 100));
        due("6 OFFLINE", OFFLINE, v.find(ROOT, 2));
        due("6 OFFLINE first", OFFLINE, v.find(ROOT, 100));
        due("7 OFFLINE", OFFLINE, v.grow(file, 1));
        due("7 OFFLINE first", OFFLINE, v.grow(file, 0));
        due("8 OFFLINE", OFFLINE, v.shrink(file, 1));
        due("8 OFFLINE first", OFFLINE, v.shrink(file, 0));
        due("9 OFFLINE", OFFLINE, v.size(file));
        due("9 OFFLINE first", OFFLINE, v.size(99));
        due("10 OFFLINE", OFFLINE, v.block(file, 0));
        due("10 OFFLINE first", OFFLINE, v.block(99, 0));
        due("11 OFFLINE", OFFLINE, v.extents(file));
        due("11 OFFLINE first", OFFLINE, v.extents(99));
        due("12 OFFLINE", OFFLINE, v.valence(ROOT));
        due("12 OFFLINE first", OFFLINE, v.valence(99));
        v.mount();
        due("nothing has changed", 4, v.records());
        due("no id is taken", 18, v.make(ROOT, 3, true));
    }

    /** Promise 18. */
    private void harmRefuses() {
        fresh();
        int folder = v.make(ROOT, 1, true);
        int file = v.make(ROOT, 2, false);
        int hidden = v.make(ROOT, 3, false);
        int link = v.link(ROOT, 3, ROOT, 4);
        for (int what = 0; what < 4; what++) {
            due("18 mounted", false, v.harm(what, new int[] {ROOT, 0, folder, hidden}[what]));
        }
        due("18 unharmed", 0, v.check());
        v.unmount();
        due("18 what -1", false, v.harm(-1, ROOT));
        due("18 what 4", false, v.harm(4, ROOT));
        due("18 hidden folder's valence", false, v.harm(0, HIDDEN_FOLDER));
        due("18 a file's valence", false, v.harm(0, file));
        due("18 a link's valence", false, v.harm(0, link));
        due("18 block -1", false, v.harm(1, -1));
        due("18 block 48", false, v.harm(1, 48));
        due("18 root's thread", false, v.harm(2, ROOT));
        due("18 hidden folder's thread", false, v.harm(2, HIDDEN_FOLDER));
        due("18 no such thread", false, v.harm(2, 99));
        due("18 a file that is not hidden", false, v.harm(3, file));
        due("18 a link's link count", false, v.harm(3, link));
        due("18 a folder's link count", false, v.harm(3, folder));
        due("18 no such hidden file", false, v.harm(3, 99));
        for (int far : FAR) {
            due("18 far what", false, v.harm(far, ROOT));
            for (int what = 0; what < 4; what++) {
                due("18 far a", false, v.harm(what, far));
            }
        }
        due("18 still unharmed", 0, v.check());
        due("18 nothing to mend", 0, v.mend());
    }

    /** Promises 18, 19 and 21, part by part. */
    private void harmOfValences() {
        fresh();
        int folder = v.make(ROOT, 1, true);
        v.make(folder, 1, true);
        v.unmount();
        due("18 a folder's valence", true, v.harm(0, folder));
        dueRow("18 its record tells it", 0, ROOT, 1, 1, folder, 2);
        due("19 valence", 1, v.check());
        due("18 once more", true, v.harm(0, folder));
        due("18 the root's", true, v.harm(0, ROOT));
        due("19 one bit for all", 1, v.check());
        due("20 not mounted", false, v.mount());
        due("21 two valences", 2, v.mend());
        dueRow("21 right again", 0, ROOT, 1, 1, folder, 1);
        due("19 fits", 0, v.check());
        due("21 nothing left", 0, v.mend());
        due("20 mounts", true, v.mount());
        due("12 root", 1, v.valence(ROOT));
        due("12 folder", 1, v.valence(folder));
        due("21 mounted", -1, v.mend());
    }

    private void harmOfTheMap() {
        fresh();
        int file = v.make(ROOT, 1, false);
        v.grow(file, 2);
        v.unmount();
        due("18 block in a list", true, v.harm(1, 0));
        due("19 not used by the map", 2, v.check());
        due("18 block in no list", true, v.harm(1, 47));
        due("19 both", 6, v.check());
        due("18 turned back", true, v.harm(1, 0));
        due("19 used, in no list", 4, v.check());
        v.harm(1, 1);
        v.harm(1, 2);
        due("21 three words", 3, v.mend());
        due("19 fits", 0, v.check());
        v.harm(1, 1);
        due("20 does not fit", false, v.mount());
        due("21 one word", 1, v.mend());
        v.mount();
        due("7 the map is right", 48, v.grow(file, 46));
        due("9 lists are as they were", 1, v.block(file, 1));
        v.link(ROOT, 1, ROOT, 2);
        v.unmount();
        v.harm(1, 20);
        due("19 hidden file's list", 2, v.check());
        due("21 hidden file's block", 1, v.mend());
    }

    private void harmOfThreads() {
        fresh();
        int folder = v.make(ROOT, 1, true);
        int file = v.make(folder, 1, false);
        int link = v.link(folder, 1, ROOT, 2);
        v.unmount();
        due("18 folder's thread", true, v.harm(2, folder));
        due("18 gone already", false, v.harm(2, folder));
        due("13 one record less", 7, v.records());
        dueRow("14 the next record", 3, folder, 1, 3, 18, file);
        due("19 thread", 8, v.check());
        due("18 hidden file's thread", true, v.harm(2, file));
        due("18 link's thread", true, v.harm(2, link));
        due("13 three records less", 5, v.records());
        due("19 threads", 8, v.check());
        due("18 valence without a thread", true, v.harm(0, folder));
        due("20 does not fit", false, v.mount());
        due("21 three threads and a valence", 4, v.mend());
        due("13 all are there", 8, v.records());
        dueRow("14 folder's thread", 3, folder, -1, 4, ROOT, 1);
        dueRow("14 hidden file's thread", 5, file, -1, 5, HIDDEN_FOLDER, file);
        dueRow("14 link's thread", 7, link, -1, 5, ROOT, 2);
        due("20 mounts", true, v.mount());
        due("18 mounted", false, v.harm(2, folder));
    }

    private void harmOfLinkCounts() {
        fresh();
        int file = v.make(ROOT, 1, false);
        v.grow(file, 3);
        int link = v.link(ROOT, 1, ROOT, 2);
        v.unmount();
        due("18 link count", true, v.harm(3, file));
        due("18 not by a link's id", false, v.harm(3, link));
        due("19 link count", 16, v.check());
        due("18 twice", true, v.harm(3, file));
        due("20 does not fit", false, v.mount());
        due("21 one count, by however much", 1, v.mend());
        due("20 mounts", true, v.mount());
        v.remove(ROOT, 1);
        due("4 one link is left", 3, v.size(file));
        v.remove(ROOT, 2);
        due("4 gone with the last", MISSING, v.size(file));
    }

    private void mendAllAtOnce() {
        fresh();
        int folder = v.make(ROOT, 1, true);
        int file = v.make(folder, 1, false);
        v.grow(file, 2);
        v.link(folder, 1, folder, 2);
        v.unmount();
        v.harm(0, ROOT);
        v.harm(0, folder);
        v.harm(1, 0);
        v.harm(1, 30);
        v.harm(2, file);
        v.harm(2, 18);
        v.harm(3, file);
        due("19 everything", 31, v.check());
        due("19 asks, changes nothing", 31, v.check());
        due("21 everything", 7, v.mend());
        due("19 fits", 0, v.check());
        due("21 nothing left", 0, v.mend());
        due("17 mend does not mount", false, v.unmount());
        due("20 mounts", true, v.mount());
        due("19 mounted", 0, v.check());
        due("21 mounted", -1, v.mend());
    }

    /** After mending, what was right before is as it was. */
    private void mendedVolumeWorks() {
        fresh();
        int folder = v.make(ROOT, 5, true);
        int file = v.make(folder, 6, false);
        v.grow(file, 4);
        v.unmount();
        v.harm(1, 2);
        v.harm(1, 4);
        v.harm(2, file);
        v.mend();
        v.mount();
        due("7 no block twice", 5, v.grow(file, 1));
        due("7 the next one", 4, v.block(file, 4));
        due("5 moves", file, v.move(folder, 6, ROOT, 6));
        dueRow("5 with the mended thread", 3, file, -1, 5, ROOT, 6);
        due("4 removes", file, v.remove(ROOT, 6));
        due("13 folder alone", 2, v.records());
        due("19 fits", 0, v.check());
    }
}
