import java.util.function.Consumer;

/** The boundary cases of promises 1 to 6: a new object, make, link, remove, move, find. */
public final class EntriesTest extends Boundary {
    private static final Consumer<Volume> HOUSE = Boundary::house;
    private static final Consumer<Volume> FULL_HOUSE = Boundary::fullHouse;

    public static void main(String[] args) throws IllegalAccessException {
        run(EntriesTest::new);
    }

    /** The full house without its last file: 19 entries; the next id is 38. */
    private static void oneShortOfFull(Volume v) {
        fullHouse(v);
        v.remove(ROOT, 64);
    }

    @Says(promise = 1, words = "Mounted, empty.")
    void aNewObject() {
        Volume v = volume();
        is(false, v.mount());
        is(-1, v.mend());
        is(0, v.check());
        is(0, v.records());
        is(BAD, v.row(0, 0));
        is(0, v.overflows());
        is(BAD, v.overflow(0, 0));
        is(0, v.valence(ROOT));
        is(MISSING, v.find(ROOT, 0));
        is(MISSING, v.size(16));
        is(true, v.unmount());
    }

    @Says(promise = 1, words = "Mounted, empty.")
    void objectsShareNothing() {
        Volume one = volume(FULL_HOUSE);
        one.grow(FILE, 45);
        one.unmount();
        Volume other = volume();
        is(16, other.make(ROOT, 1, false));
        is(48, other.grow(16, 48));
        is(2, other.records());
        is(false, one.unmount());
        is(42, one.records());
    }

    @Says(promise = 2, words = "Makes a folder or a file (without blocks) and answers its id.")
    void makeOfAFolderAndOfAFile() {
        Volume v = volume();
        is(16, v.make(ROOT, 0, true));
        is(0, v.valence(16));
        is(MISSING, v.size(16));
        is(17, v.make(ROOT, 1, false));
        is(0, v.size(17));
        is(0, v.extents(17));
        is(MISSING, v.valence(17));
        is(2, v.valence(ROOT));
    }

    @Says(promise = 2, words = "BAD when name is not 0 .. 99")
    void makeNeedsAName() {
        for (int name : NO_NAMES) {
            refuses(BAD, HOUSE, v -> v.make(ROOT, name, true));
            refuses(BAD, HOUSE, v -> v.make(FOLDER, name, false));
        }
        Volume v = volume(HOUSE);
        is(23, v.make(ROOT, 0, true));
        is(24, v.make(ROOT, 99, false));
    }

    @Says(promise = 2, words = "MISSING when parent is no folder")
    void makeNeedsAFolder() {
        for (int parent : NO_FOLDERS) {
            refuses(MISSING, HOUSE, v -> v.make(parent, 9, true));
            refuses(MISSING, HOUSE, v -> v.make(parent, 9, false));
        }
        Volume v = volume(HOUSE);
        is(23, v.make(INNER_FOLDER, 9, false));
    }

    @Says(promise = 2, words = "EXISTS")
    void makeNeedsANameThatIsNotTaken() {
        for (boolean folder : new boolean[] {false, true}) {
            for (int name = 1; name <= 3; name++) {
                int taken = name;
                refuses(EXISTS, HOUSE, v -> v.make(ROOT, taken, folder));
            }
            refuses(EXISTS, HOUSE, v -> v.make(FOLDER, 0, folder));
            refuses(EXISTS, HOUSE, v -> v.make(FOLDER, 4, folder));
        }
    }

    @Says(promise = 2, words = "EXISTS")
    void makeTakesANameThatIsFreeAgain() {
        Volume v = volume(HOUSE);
        v.remove(ROOT, 2);
        is(23, v.make(ROOT, 2, true));
        v.move(ROOT, 1, ROOT, 5);
        is(24, v.make(ROOT, 1, true));
        is(EXISTS, v.make(ROOT, 5, true));
    }

    @Says(promise = 2, words = "FULL.")
    void makeOfTheTwentyFirst() {
        for (boolean folder : new boolean[] {false, true}) {
            refuses(FULL, FULL_HOUSE, v -> v.make(ROOT, 9, folder));
            refuses(FULL, FULL_HOUSE, v -> v.make(INNER_FOLDER, 9, folder));
            Volume v = volume(EntriesTest::oneShortOfFull);
            is(38, v.make(INNER_FOLDER, 9, folder));
            is(FULL, v.make(ROOT, 9, folder));
            v.remove(INNER_FOLDER, 9);
            is(39, v.make(ROOT, 9, folder));
        }
    }

    @Says(promise = 2, words = "OFFLINE; BAD when name is not 0 .. 99; MISSING when parent is no folder; EXISTS; FULL.")
    void orderOfTheRefusalsOfMake() {
        refuses(OFFLINE, offline(HOUSE), v -> v.make(ROOT, 9, false));
        refuses(OFFLINE, offline(HOUSE), v -> v.make(ROOT, 100, false));
        refuses(OFFLINE, offline(HOUSE), v -> v.make(HIDDEN_FOLDER, 9, false));
        refuses(OFFLINE, offline(HOUSE), v -> v.make(ROOT, 1, false));
        refuses(OFFLINE, offline(FULL_HOUSE), v -> v.make(ROOT, 9, false));
        refuses(BAD, HOUSE, v -> v.make(HIDDEN_FOLDER, 100, false));
        refuses(BAD, FULL_HOUSE, v -> v.make(ROOT, -1, false));
        refuses(MISSING, HOUSE, v -> v.make(HIDDEN_FOLDER, HIDDEN_FILE, false));
        refuses(MISSING, FULL_HOUSE, v -> v.make(GONE, 9, false));
        refuses(EXISTS, FULL_HOUSE, v -> v.make(ROOT, 1, false));
    }

    @Says(promise = 3, words = "it becomes a hidden file (its id and blocks stay), a link for it with the next id takes its place and its name")
    void linkOfAFile() {
        Volume v = volume(HOUSE);
        is(24, v.link(ROOT, 2, INNER_FOLDER, 99));
        is(23, v.find(ROOT, 2));
        is(24, v.find(INNER_FOLDER, 99));
        isList(v, FILE, 0, 1);
        isList(v, 23, 0, 1);
        isList(v, 24, 0, 1);
        is(3, v.valence(ROOT));
        is(1, v.valence(INNER_FOLDER));
        is(0, v.check());
        is(25, v.make(ROOT, 9, false));
    }

    @Says(promise = 3, words = "its id and blocks stay")
    void linkOfAFileWithoutBlocksAndOfOneWithAll() {
        for (int n : new int[] {0, 48}) {
            Volume v = volume();
            v.make(ROOT, 0, false);
            v.grow(16, n);
            is(18, v.link(ROOT, 0, ROOT, 99));
            is(n, v.size(16));
            is(n, v.size(17));
            is(n, v.size(18));
            is(0, v.check());
        }
    }

    @Says(promise = 3, words = "its id and blocks stay")
    void overflowRecordsOfAFileThatIsLinked() {
        Volume v = volume();
        v.make(ROOT, 0, false);
        v.make(ROOT, 1, false);
        for (int i = 0; i < 4; i++) {
            v.grow(16, 1);
            v.grow(17, 1);
        }
        v.link(ROOT, 0, ROOT, 2);
        is(4, v.overflows());
        isOverflow(v, 0, 16, 2, 4, 1);
        isOverflow(v, 1, 16, 3, 6, 1);
        isOverflow(v, 2, 17, 2, 5, 1);
    }

    @Says(promise = 3, words = "If it is a link: a new link for the same hidden file, with the next id")
    void linkOfALink() {
        Volume v = volume(HOUSE);
        is(23, v.link(ROOT, 3, INNER_FOLDER, 0));
        is(24, v.link(INNER_FOLDER, 0, ROOT, 0));
        is(LINK, v.find(ROOT, 3));
        is(23, v.find(INNER_FOLDER, 0));
        isRow(v, 0, ROOT, 0, 3, 24, HIDDEN_FILE);
        isList(v, 24, 2);
        is(16, v.records());
        is(0, v.check());
    }

    @Says(promise = 3, words = "If it is a link: a new link for the same hidden file")
    void linkOfTheLinkThatIsLeft() {
        Volume v = volume(HOUSE);
        v.remove(ROOT, 3);
        is(23, v.link(FOLDER, 4, ROOT, 3));
        is(SECOND_LINK, v.find(FOLDER, 4));
        is(12, v.records());
        is(0, v.check());
    }

    @Says(promise = 3, words = "BAD when a name is not 0 .. 99")
    void linkNeedsNames() {
        for (int name : NO_NAMES) {
            refuses(BAD, HOUSE, v -> v.link(ROOT, name, ROOT, 9));
            refuses(BAD, HOUSE, v -> v.link(ROOT, 2, ROOT, name));
            refuses(BAD, HOUSE, v -> v.link(ROOT, 3, FOLDER, name));
        }
        Volume v = volume(HOUSE);
        is(24, v.link(ROOT, 2, ROOT, 0));
        is(25, v.link(ROOT, 0, ROOT, 99));
        is(26, v.link(ROOT, 99, ROOT, 98));
    }

    @Says(promise = 3, words = "MISSING when parent is no folder, has not that name")
    void linkNeedsSomethingToLink() {
        for (int parent : NO_FOLDERS) {
            refuses(MISSING, HOUSE, v -> v.link(parent, 2, ROOT, 9));
        }
        refuses(MISSING, HOUSE, v -> v.link(HIDDEN_FOLDER, HIDDEN_FILE, ROOT, 9));
        refuses(MISSING, HOUSE, v -> v.link(ROOT, 0, ROOT, 9));
        refuses(MISSING, HOUSE, v -> v.link(ROOT, 4, ROOT, 9));
        refuses(MISSING, HOUSE, v -> v.link(FOLDER, 2, ROOT, 9));
        refuses(MISSING, HOUSE, v -> v.link(ROOT, 9, ROOT, 8));
    }

    @Says(promise = 3, words = "or has a folder under it")
    void linkOfAFolder() {
        refuses(MISSING, HOUSE, v -> v.link(ROOT, 1, ROOT, 9));
        refuses(MISSING, HOUSE, v -> v.link(FOLDER, 0, ROOT, 9));
        refuses(MISSING, HOUSE, v -> v.link(FOLDER, 0, INNER_FOLDER, 9));
    }

    @Says(promise = 3, words = "or toParent is no folder")
    void linkNeedsAFolderToLinkInto() {
        for (int toParent : NO_FOLDERS) {
            refuses(MISSING, HOUSE, v -> v.link(ROOT, 2, toParent, 9));
            refuses(MISSING, HOUSE, v -> v.link(ROOT, 3, toParent, 9));
        }
    }

    @Says(promise = 3, words = "EXISTS when toParent has toName")
    void linkNeedsANameThatIsNotTaken() {
        for (int name = 2; name <= 3; name++) {
            int linked = name;
            for (int toName = 1; toName <= 3; toName++) {
                int taken = toName;
                refuses(EXISTS, HOUSE, v -> v.link(ROOT, linked, ROOT, taken));
            }
            refuses(EXISTS, HOUSE, v -> v.link(ROOT, linked, FOLDER, 0));
            refuses(EXISTS, HOUSE, v -> v.link(ROOT, linked, FOLDER, 4));
        }
        Volume v = volume(HOUSE);
        is(24, v.link(ROOT, 2, FOLDER, 2));
    }

    @Says(promise = 3, words = "FULL.")
    void linkBeyondTwentyEntries() {
        refuses(FULL, FULL_HOUSE, v -> v.link(ROOT, 2, ROOT, 9));
        refuses(FULL, FULL_HOUSE, v -> v.link(ROOT, 3, INNER_FOLDER, 9));
        Volume file = volume(EntriesTest::oneShortOfFull);
        is(39, file.link(ROOT, 2, ROOT, 9));
        is(FULL, file.link(ROOT, 2, ROOT, 10));
        is(FULL, file.make(ROOT, 10, true));
        Volume link = volume(EntriesTest::oneShortOfFull);
        is(38, link.link(ROOT, 3, ROOT, 9));
        is(FULL, link.link(ROOT, 3, ROOT, 10));
        is(FULL, link.make(ROOT, 10, true));
    }

    @Says(promise = 3, words = "MISSING when parent is no folder, has not that name, or has a folder under it, or toParent is no folder; EXISTS when toParent has toName; FULL.")
    void orderOfTheRefusalsOfLink() {
        refuses(OFFLINE, offline(HOUSE), v -> v.link(ROOT, 2, ROOT, 9));
        refuses(OFFLINE, offline(HOUSE), v -> v.link(ROOT, 100, ROOT, 9));
        refuses(OFFLINE, offline(HOUSE), v -> v.link(ROOT, 2, ROOT, 100));
        refuses(OFFLINE, offline(HOUSE), v -> v.link(ROOT, 8, ROOT, 9));
        refuses(OFFLINE, offline(HOUSE), v -> v.link(ROOT, 2, ROOT, 1));
        refuses(OFFLINE, offline(FULL_HOUSE), v -> v.link(ROOT, 2, ROOT, 9));
        refuses(BAD, HOUSE, v -> v.link(ROOT, 100, GONE, 9));
        refuses(BAD, HOUSE, v -> v.link(ROOT, 100, ROOT, 1));
        refuses(BAD, HOUSE, v -> v.link(GONE, 2, ROOT, 100));
        refuses(BAD, HOUSE, v -> v.link(ROOT, 8, ROOT, -1));
        refuses(BAD, HOUSE, v -> v.link(ROOT, 1, ROOT, -1));
        refuses(BAD, FULL_HOUSE, v -> v.link(ROOT, -1, ROOT, 9));
        refuses(BAD, FULL_HOUSE, v -> v.link(ROOT, 2, ROOT, 100));
    }

    @Says(promise = 3, words = "has not that name, or has a folder under it, or toParent is no folder; EXISTS when toParent has toName; FULL.")
    void orderOfTheLastRefusalsOfLink() {
        refuses(MISSING, HOUSE, v -> v.link(GONE, 2, ROOT, 1));
        refuses(MISSING, HOUSE, v -> v.link(ROOT, 8, ROOT, 1));
        refuses(MISSING, HOUSE, v -> v.link(ROOT, 1, ROOT, 2));
        refuses(MISSING, HOUSE, v -> v.link(ROOT, 1, ROOT, 1));
        refuses(MISSING, HOUSE, v -> v.link(ROOT, 2, HIDDEN_FOLDER, HIDDEN_FILE));
        refuses(MISSING, FULL_HOUSE, v -> v.link(GONE, 2, ROOT, 9));
        refuses(MISSING, FULL_HOUSE, v -> v.link(ROOT, 8, ROOT, 9));
        refuses(MISSING, FULL_HOUSE, v -> v.link(ROOT, 1, ROOT, 9));
        refuses(MISSING, FULL_HOUSE, v -> v.link(ROOT, 2, FILE, 9));
        refuses(EXISTS, FULL_HOUSE, v -> v.link(ROOT, 2, ROOT, 1));
        refuses(EXISTS, FULL_HOUSE, v -> v.link(ROOT, 3, FOLDER, 0));
    }

    @Says(promise = 4, words = "Takes an entry away and answers its id.")
    void removeOfEveryKind() {
        Volume v = volume(HOUSE);
        is(FILE, v.remove(ROOT, 2));
        is(LINK, v.remove(ROOT, 3));
        is(SECOND_LINK, v.remove(FOLDER, 4));
        is(INNER_FOLDER, v.remove(FOLDER, 0));
        is(FOLDER, v.remove(ROOT, 1));
        is(0, v.records());
        is(0, v.valence(ROOT));
        is(MISSING, v.valence(FOLDER));
        is(MISSING, v.find(ROOT, 1));
    }

    @Says(promise = 4, words = "The blocks of a file are used no more")
    void removeOfAFileWithoutBlocksAndOfOneWithAll() {
        for (int n : new int[] {0, 1, 48}) {
            Volume v = volume();
            v.make(ROOT, 0, false);
            v.grow(16, n);
            is(16, v.remove(ROOT, 0));
            is(MISSING, v.size(16));
            is(0, v.check());
            v.make(ROOT, 0, false);
            is(48, v.grow(17, 48));
        }
    }

    @Says(promise = 4, words = "with the last link for a hidden file that one is gone too, and so are its blocks")
    void removeOfTheLastLink() {
        Volume v = volume(HOUSE);
        is(LINK, v.remove(ROOT, 3));
        is(MISSING, v.size(LINK));
        isList(v, HIDDEN_FILE, 2);
        isList(v, SECOND_LINK, 2);
        is(SECOND_LINK, v.remove(FOLDER, 4));
        is(MISSING, v.size(HIDDEN_FILE));
        is(MISSING, v.grow(SECOND_LINK, 1));
        is(6, v.records());
        is(48, v.grow(FILE, 46));
        is(2, v.block(FILE, 2));
    }

    @Says(promise = 4, words = "with the last link for a hidden file that one is gone too")
    void removeOfLinksInTheOtherOrder() {
        Volume v = volume(HOUSE);
        v.link(ROOT, 3, ROOT, 9);
        is(SECOND_LINK, v.remove(FOLDER, 4));
        is(1, v.size(HIDDEN_FILE));
        is(LINK, v.remove(ROOT, 3));
        is(1, v.size(23));
        is(23, v.remove(ROOT, 9));
        is(MISSING, v.size(HIDDEN_FILE));
        is(0, v.check());
    }

    @Says(promise = 4, words = "BAD when name is not 0 .. 99")
    void removeNeedsAName() {
        for (int name : NO_NAMES) {
            refuses(BAD, HOUSE, v -> v.remove(ROOT, name));
            refuses(BAD, HOUSE, v -> v.remove(FOLDER, name));
        }
        Volume v = volume();
        v.make(ROOT, 0, true);
        v.make(ROOT, 99, true);
        is(16, v.remove(ROOT, 0));
        is(17, v.remove(ROOT, 99));
    }

    @Says(promise = 4, words = "MISSING when parent is no folder or has not that name")
    void removeNeedsAnEntry() {
        for (int parent : NO_FOLDERS) {
            refuses(MISSING, HOUSE, v -> v.remove(parent, 2));
        }
        refuses(MISSING, HOUSE, v -> v.remove(HIDDEN_FOLDER, HIDDEN_FILE));
        refuses(MISSING, HOUSE, v -> v.remove(ROOT, 0));
        refuses(MISSING, HOUSE, v -> v.remove(ROOT, 4));
        refuses(MISSING, HOUSE, v -> v.remove(FOLDER, 1));
        refuses(MISSING, HOUSE, v -> v.remove(ROOT, 9));
    }

    @Says(promise = 4, words = "NOT_EMPTY.")
    void removeOfAFolderThatHasEntries() {
        refuses(NOT_EMPTY, HOUSE, v -> v.remove(ROOT, 1));
        for (boolean folder : new boolean[] {false, true}) {
            Consumer<Volume> one = v -> {
                v.make(ROOT, 0, true);
                v.make(16, 0, folder);
            };
            refuses(NOT_EMPTY, one, v -> v.remove(ROOT, 0));
        }
        Consumer<Volume> link = v -> {
            house(v);
            v.remove(FOLDER, 0);
        };
        refuses(NOT_EMPTY, link, v -> v.remove(ROOT, 1));
    }

    @Says(promise = 4, words = "NOT_EMPTY.")
    void removeOfAFolderThatIsEmptyAgain() {
        Volume v = volume(HOUSE);
        v.remove(FOLDER, 0);
        is(NOT_EMPTY, v.remove(ROOT, 1));
        v.move(FOLDER, 4, ROOT, 4);
        is(FOLDER, v.remove(ROOT, 1));
        is(MISSING, v.make(FOLDER, 1, false));
    }

    @Says(promise = 4, words = "OFFLINE; BAD when name is not 0 .. 99; MISSING when parent is no folder or has not that name; NOT_EMPTY.")
    void orderOfTheRefusalsOfRemove() {
        refuses(OFFLINE, offline(HOUSE), v -> v.remove(ROOT, 2));
        refuses(OFFLINE, offline(HOUSE), v -> v.remove(ROOT, 100));
        refuses(OFFLINE, offline(HOUSE), v -> v.remove(ROOT, 9));
        refuses(OFFLINE, offline(HOUSE), v -> v.remove(GONE, 2));
        refuses(OFFLINE, offline(HOUSE), v -> v.remove(ROOT, 1));
        refuses(BAD, HOUSE, v -> v.remove(GONE, -1));
        refuses(BAD, HOUSE, v -> v.remove(HIDDEN_FOLDER, 100));
    }

    @Says(promise = 5, words = "Moves an entry, as it is, to another folder and name, and answers its id.")
    void moveOfEveryKind() {
        Volume v = volume(HOUSE);
        is(FILE, v.move(ROOT, 2, INNER_FOLDER, 0));
        is(LINK, v.move(ROOT, 3, INNER_FOLDER, 99));
        is(INNER_FOLDER, v.move(FOLDER, 0, ROOT, 0));
        is(FOLDER, v.move(ROOT, 1, INNER_FOLDER, 1));
        is(1, v.valence(ROOT));
        is(3, v.valence(INNER_FOLDER));
        is(1, v.valence(FOLDER));
        isList(v, FILE, 0, 1);
        isList(v, LINK, 2);
        is(SECOND_LINK, v.find(FOLDER, 4));
        is(MISSING, v.find(ROOT, 1));
        is(12, v.records());
        is(0, v.check());
        is(23, v.make(ROOT, 9, true));
    }

    @Says(promise = 5, words = "to another folder and name")
    void moveToAnotherNameOrAnotherFolderAlone() {
        Volume v = volume(HOUSE);
        is(FILE, v.move(ROOT, 2, ROOT, 99));
        is(3, v.valence(ROOT));
        is(FILE, v.move(ROOT, 99, FOLDER, 99));
        is(2, v.valence(ROOT));
        is(3, v.valence(FOLDER));
        is(MISSING, v.find(ROOT, 2));
        is(MISSING, v.find(ROOT, 99));
        is(FILE, v.find(FOLDER, 99));
    }

    @Says(promise = 5, words = "Moves an entry")
    void moveWithTwentyEntriesAndNoBlocks() {
        Volume v = volume(FULL_HOUSE);
        v.grow(FILE, 45);
        is(FILE, v.move(ROOT, 2, INNER_FOLDER, 2));
        is(48, v.size(FILE) + v.size(HIDDEN_FILE));
        is(FULL, v.make(ROOT, 2, false));
    }

    @Says(promise = 5, words = "BAD when a name is not 0 .. 99")
    void moveNeedsNames() {
        for (int name : NO_NAMES) {
            refuses(BAD, HOUSE, v -> v.move(ROOT, name, ROOT, 9));
            refuses(BAD, HOUSE, v -> v.move(ROOT, 2, ROOT, name));
            refuses(BAD, HOUSE, v -> v.move(ROOT, name, ROOT, name));
        }
        Volume v = volume(HOUSE);
        is(FILE, v.move(ROOT, 2, ROOT, 0));
        is(FILE, v.move(ROOT, 0, ROOT, 99));
        is(FILE, v.move(ROOT, 99, ROOT, 2));
    }

    @Says(promise = 5, words = "MISSING when parent is no folder or has not that name")
    void moveNeedsAnEntry() {
        for (int parent : NO_FOLDERS) {
            refuses(MISSING, HOUSE, v -> v.move(parent, 2, ROOT, 9));
            refuses(MISSING, HOUSE, v -> v.move(parent, 2, parent, 2));
        }
        refuses(MISSING, HOUSE, v -> v.move(HIDDEN_FOLDER, HIDDEN_FILE, ROOT, 9));
        refuses(MISSING, HOUSE, v -> v.move(ROOT, 0, ROOT, 9));
        refuses(MISSING, HOUSE, v -> v.move(ROOT, 4, ROOT, 9));
        refuses(MISSING, HOUSE, v -> v.move(FOLDER, 2, ROOT, 9));
        refuses(MISSING, HOUSE, v -> v.move(ROOT, 9, ROOT, 9));
    }

    @Says(promise = 5, words = "or toParent is no folder")
    void moveNeedsAFolderToMoveInto() {
        for (int toParent : NO_FOLDERS) {
            refuses(MISSING, HOUSE, v -> v.move(ROOT, 1, toParent, 9));
            refuses(MISSING, HOUSE, v -> v.move(ROOT, 2, toParent, 9));
            refuses(MISSING, HOUSE, v -> v.move(ROOT, 3, toParent, 9));
        }
    }

    @Says(promise = 5, words = "LOOP when it is a folder and toParent is it or lies in it, at any depth")
    void moveOfAFolderIntoItself() {
        refuses(LOOP, HOUSE, v -> v.move(ROOT, 1, FOLDER, 9));
        refuses(LOOP, HOUSE, v -> v.move(ROOT, 1, INNER_FOLDER, 9));
        refuses(LOOP, HOUSE, v -> v.move(FOLDER, 0, INNER_FOLDER, 9));
    }

    @Says(promise = 5, words = "toParent is it or lies in it, at any depth")
    void moveInAChainOfTwentyFolders() {
        Consumer<Volume> chain = v -> {
            for (int i = 0; i < 20; i++) {
                v.make(i == 0 ? ROOT : 15 + i, 0, true);
            }
        };
        for (int i = 0; i < 20; i++) {
            int below = 16 + i;
            Volume v = volume(chain);
            is(LOOP, v.move(ROOT, 0, below, 1));
            is(LOOP, v.move(below == 16 ? ROOT : below - 1, 0, 35, 1));
        }
        Volume v = volume(chain);
        is(35, v.move(34, 0, ROOT, 1));
        is(16, v.move(ROOT, 0, 35, 0));
        is(LOOP, v.move(ROOT, 1, 34, 1));
        is(1, v.valence(ROOT));
        is(0, v.valence(34));
        is(0, v.check());
    }

    @Says(promise = 5, words = "LOOP when it is a folder")
    void moveBesideAndAboveIsNoLoop() {
        Volume v = volume(HOUSE);
        v.make(ROOT, 9, true);
        is(23, v.move(ROOT, 9, INNER_FOLDER, 9));
        is(23, v.move(INNER_FOLDER, 9, FOLDER, 9));
        is(23, v.move(FOLDER, 9, ROOT, 9));
        is(INNER_FOLDER, v.move(FOLDER, 0, 23, 0));
        is(FOLDER, v.move(ROOT, 1, INNER_FOLDER, 1));
        is(LOOP, v.move(ROOT, 9, FOLDER, 9));
        is(FILE, v.move(ROOT, 2, FOLDER, 2));
        is(LINK, v.move(ROOT, 3, FOLDER, 3));
    }

    @Says(promise = 5, words = "the id, with nothing done, when it lies there under that name already")
    void moveToWhereItLies() {
        refuses(FOLDER, HOUSE, v -> v.move(ROOT, 1, ROOT, 1));
        refuses(FILE, HOUSE, v -> v.move(ROOT, 2, ROOT, 2));
        refuses(LINK, HOUSE, v -> v.move(ROOT, 3, ROOT, 3));
        refuses(INNER_FOLDER, HOUSE, v -> v.move(FOLDER, 0, FOLDER, 0));
        refuses(SECOND_LINK, HOUSE, v -> v.move(FOLDER, 4, FOLDER, 4));
        refuses(FILE, FULL_HOUSE, v -> v.move(ROOT, 2, ROOT, 2));
    }

    @Says(promise = 5, words = "EXISTS.")
    void moveNeedsANameThatIsNotTaken() {
        for (int name = 1; name <= 3; name++) {
            for (int toName = 1; toName <= 3; toName++) {
                int moved = name;
                int taken = toName;
                if (name != toName) {
                    refuses(EXISTS, HOUSE, v -> v.move(ROOT, moved, ROOT, taken));
                }
            }
        }
        refuses(EXISTS, HOUSE, v -> v.move(ROOT, 2, FOLDER, 0));
        refuses(EXISTS, HOUSE, v -> v.move(ROOT, 3, FOLDER, 4));
        refuses(EXISTS, HOUSE, v -> v.move(FOLDER, 0, ROOT, 1));
        Volume v = volume(HOUSE);
        is(FILE, v.move(ROOT, 2, FOLDER, 2));
        is(LINK, v.move(ROOT, 3, ROOT, 2));
    }

    @Says(promise = 5, words = "OFFLINE; BAD when a name is not 0 .. 99; MISSING when parent is no folder or has not that name, or toParent is no folder; LOOP")
    void orderOfTheRefusalsOfMove() {
        refuses(OFFLINE, offline(HOUSE), v -> v.move(ROOT, 2, ROOT, 9));
        refuses(OFFLINE, offline(HOUSE), v -> v.move(ROOT, 100, ROOT, 9));
        refuses(OFFLINE, offline(HOUSE), v -> v.move(ROOT, 2, ROOT, -1));
        refuses(OFFLINE, offline(HOUSE), v -> v.move(ROOT, 8, ROOT, 9));
        refuses(OFFLINE, offline(HOUSE), v -> v.move(ROOT, 1, FOLDER, 9));
        refuses(OFFLINE, offline(HOUSE), v -> v.move(ROOT, 2, ROOT, 2));
        refuses(OFFLINE, offline(HOUSE), v -> v.move(ROOT, 2, ROOT, 1));
        refuses(BAD, HOUSE, v -> v.move(ROOT, 100, GONE, 9));
        refuses(BAD, HOUSE, v -> v.move(ROOT, 100, ROOT, 1));
        refuses(BAD, HOUSE, v -> v.move(GONE, 2, ROOT, 100));
        refuses(BAD, HOUSE, v -> v.move(ROOT, 8, ROOT, 100));
        refuses(BAD, HOUSE, v -> v.move(ROOT, 2, GONE, -1));
        refuses(BAD, HOUSE, v -> v.move(ROOT, 1, INNER_FOLDER, -1));
        refuses(MISSING, HOUSE, v -> v.move(GONE, 1, ROOT, 1));
        refuses(MISSING, HOUSE, v -> v.move(ROOT, 8, ROOT, 1));
        refuses(MISSING, HOUSE, v -> v.move(ROOT, 8, FOLDER, 0));
        refuses(MISSING, HOUSE, v -> v.move(ROOT, 2, HIDDEN_FOLDER, HIDDEN_FILE));
    }

    @Says(promise = 5, words = "LOOP when it is a folder and toParent is it or lies in it, at any depth; the id, with nothing done, when it lies there under that name already; EXISTS.")
    void loopComesBeforeExists() {
        refuses(LOOP, HOUSE, v -> v.move(ROOT, 1, FOLDER, 0));
        refuses(LOOP, HOUSE, v -> v.move(ROOT, 1, FOLDER, 4));
    }

    @Says(promise = 6, words = "The id of the entry under a name in a folder.")
    void findOfEveryKind() {
        Volume v = volume(HOUSE);
        is(FOLDER, v.find(ROOT, 1));
        is(FILE, v.find(ROOT, 2));
        is(LINK, v.find(ROOT, 3));
        is(INNER_FOLDER, v.find(FOLDER, 0));
        is(SECOND_LINK, v.find(FOLDER, 4));
        isLike(v, volume(HOUSE));
    }

    @Says(promise = 6, words = "BAD when name is not 0 .. 99")
    void findNeedsAName() {
        for (int name : NO_NAMES) {
            refuses(BAD, HOUSE, v -> v.find(ROOT, name));
        }
        refuses(MISSING, HOUSE, v -> v.find(ROOT, 0));
        refuses(MISSING, HOUSE, v -> v.find(ROOT, 99));
    }

    @Says(promise = 6, words = "MISSING when parent is no folder or has not that name")
    void findNeedsAnEntry() {
        for (int parent : NO_FOLDERS) {
            refuses(MISSING, HOUSE, v -> v.find(parent, 2));
        }
        refuses(MISSING, HOUSE, v -> v.find(HIDDEN_FOLDER, HIDDEN_FILE));
        refuses(MISSING, HOUSE, v -> v.find(ROOT, 4));
        refuses(MISSING, HOUSE, v -> v.find(FOLDER, 1));
        refuses(MISSING, HOUSE, v -> v.find(INNER_FOLDER, 0));
        refuses(MISSING, HOUSE, v -> v.find(ROOT, 9));
    }

    @Says(promise = 6, words = "OFFLINE; BAD when name is not 0 .. 99; MISSING when parent is no folder or has not that name.")
    void orderOfTheRefusalsOfFind() {
        refuses(OFFLINE, offline(HOUSE), v -> v.find(ROOT, 2));
        refuses(OFFLINE, offline(HOUSE), v -> v.find(ROOT, 100));
        refuses(OFFLINE, offline(HOUSE), v -> v.find(ROOT, 9));
        refuses(OFFLINE, offline(HOUSE), v -> v.find(GONE, 2));
        refuses(BAD, HOUSE, v -> v.find(GONE, 100));
        refuses(BAD, HOUSE, v -> v.find(HIDDEN_FOLDER, -1));
    }
}
