import java.util.function.Consumer;

/** The boundary cases of promises 7 to 12: grow, shrink, size, block, extents, valence. */
public final class BlocksTest extends Boundary {
    private static final Consumer<Volume> HOUSE = Boundary::house;
    private static final Consumer<Volume> USED_UP = Boundary::usedUp;

    public static void main(String[] args) throws IllegalAccessException {
        run(BlocksTest::new);
    }

    /** Files 16, 17, .. in the root under the names 0, 1, .., with so many blocks, one behind the other. */
    private static void row(Volume v, int... sizes) {
        for (int name = 0; name < sizes.length; name++) {
            v.make(ROOT, name, false);
            if (sizes[name] > 0) {
                v.grow(16 + name, sizes[name]);
            }
        }
    }

    @Says(promise = 7, words = "each time the block with the number after the file's last one, if there is such a block and it is not used")
    void growGoesOnBehindTheLast() {
        Volume v = volume();
        row(v, 2, 3, 0);
        v.remove(ROOT, 0);
        is(4, v.grow(17, 1));
        isList(v, 17, 2, 3, 4, 5);
        is(6, v.grow(17, 2));
        isList(v, 17, 2, 3, 4, 5, 6, 7);
    }

    @Says(promise = 7, words = "otherwise the lowest block that is not used")
    void growBehindAUsedBlock() {
        Volume v = volume();
        row(v, 1, 1, 1, 1, 1);
        v.remove(ROOT, 0);
        v.remove(ROOT, 2);
        is(2, v.grow(19, 1));
        isList(v, 19, 3, 0);
        is(3, v.grow(19, 1));
        isList(v, 19, 3, 0, 2);
        is(4, v.grow(19, 1));
        isList(v, 19, 3, 0, 2, 5);
    }

    @Says(promise = 7, words = "if there is such a block")
    void growBehindBlock47() {
        Volume v = volume();
        row(v, 3, 1, 44);
        is(47, v.block(18, 43));
        is(NO_SPACE, v.grow(18, 1));
        v.remove(ROOT, 0);
        is(45, v.grow(18, 1));
        is(0, v.block(18, 44));
        is(47, v.grow(18, 2));
        is(1, v.block(18, 45));
        is(2, v.block(18, 46));
    }

    @Says(promise = 7, words = "otherwise the lowest block that is not used")
    void growUpToBlock47AndFromTheLowestOn() {
        Volume v = volume();
        row(v, 2, 1, 43);
        v.remove(ROOT, 0);
        is(47, v.grow(18, 4));
        is(45, v.block(18, 42));
        is(46, v.block(18, 43));
        is(47, v.block(18, 44));
        is(0, v.block(18, 45));
        is(1, v.block(18, 46));
    }

    @Says(promise = 7, words = "the lowest block that is not used")
    void growOfAFileWithoutBlocks() {
        Volume v = volume();
        row(v, 2, 1, 0, 0);
        is(1, v.grow(18, 1));
        isList(v, 18, 3);
        v.remove(ROOT, 0);
        is(3, v.grow(19, 3));
        isList(v, 19, 0, 1, 4);
    }

    @Says(promise = 7, words = "the lowest block that is not used")
    void growOfAFileThatHasNoBlocksAnyMore() {
        Volume v = volume();
        row(v, 2, 3);
        v.shrink(17, 3);
        v.remove(ROOT, 0);
        is(1, v.grow(17, 1));
        isList(v, 17, 0);
    }

    @Says(promise = 7, words = "Gives a file n blocks more, one after the other")
    void growChoosesForEachBlockAnew() {
        Volume v = volume();
        row(v, 1, 1, 1, 2, 1);
        v.remove(ROOT, 1);
        v.remove(ROOT, 3);
        is(6, v.grow(18, 5));
        isList(v, 18, 2, 3, 4, 1, 6, 7);
        is(1, v.shrink(18, 5));
        is(2, v.grow(18, 1));
        is(2, v.grow(16, 1));
        is(4, v.grow(18, 2));
        isList(v, 18, 2, 3, 4, 6);
        isList(v, 16, 0, 1);
    }

    @Says(promise = 7, words = "Answers how many blocks it has then.")
    void growAnswersTheSize() {
        Volume v = volume();
        row(v, 0);
        is(1, v.grow(16, 1));
        is(3, v.grow(16, 2));
        is(48, v.grow(16, 45));
        is(48, v.size(16));
    }

    @Says(promise = 7, words = "BAD when n is not 1 .. 48")
    void growByACount() {
        for (int n : NO_COUNTS) {
            refuses(BAD, HOUSE, v -> v.grow(FILE, n));
            refuses(BAD, HOUSE, v -> v.grow(SECOND_LINK, n));
        }
        Volume one = volume();
        row(one, 0);
        is(1, one.grow(16, 1));
        Volume all = volume();
        row(all, 0);
        is(48, all.grow(16, 48));
    }

    @Says(promise = 7, words = "MISSING when id is no file")
    void growOfNoFile() {
        for (int id : NO_FILES) {
            refuses(MISSING, HOUSE, v -> v.grow(id, 1));
        }
        for (int id : new int[] {FILE, HIDDEN_FILE, LINK, SECOND_LINK}) {
            is(true, volume(HOUSE).grow(id, 1) >= 2);
        }
    }

    @Says(promise = 7, words = "NO_SPACE when fewer than n blocks are not used")
    void growByAllThatIsNotUsedAndByOneMore() {
        refuses(NO_SPACE, HOUSE, v -> v.grow(FILE, 46));
        refuses(NO_SPACE, HOUSE, v -> v.grow(LINK, 48));
        is(47, volume(HOUSE).grow(FILE, 45));
        refuses(NO_SPACE, USED_UP, v -> v.grow(FILE, 1));
        refuses(NO_SPACE, USED_UP, v -> v.grow(HIDDEN_FILE, 1));
        Consumer<Volume> oneLeft = v -> {
            usedUp(v);
            v.shrink(FILE, 1);
        };
        refuses(NO_SPACE, oneLeft, v -> v.grow(FILE, 2));
        is(2, volume(oneLeft).grow(SECOND_LINK, 1));
        Volume v = volume(USED_UP);
        v.remove(ROOT, 2);
        is(48, v.grow(LINK, 47));
    }

    @Says(promise = 7, words = "OFFLINE; BAD when n is not 1 .. 48; MISSING when id is no file; NO_SPACE when fewer than n blocks are not used.")
    void orderOfTheRefusalsOfGrow() {
        refuses(OFFLINE, offline(HOUSE), v -> v.grow(FILE, 1));
        refuses(OFFLINE, offline(HOUSE), v -> v.grow(FILE, 0));
        refuses(OFFLINE, offline(HOUSE), v -> v.grow(FOLDER, 1));
        refuses(OFFLINE, offline(USED_UP), v -> v.grow(FILE, 1));
        refuses(BAD, HOUSE, v -> v.grow(FOLDER, 0));
        refuses(BAD, HOUSE, v -> v.grow(GONE, 49));
        refuses(BAD, USED_UP, v -> v.grow(FILE, 49));
        refuses(BAD, USED_UP, v -> v.grow(FILE, 0));
        refuses(MISSING, USED_UP, v -> v.grow(FOLDER, 1));
        refuses(MISSING, HOUSE, v -> v.grow(GONE, 48));
    }

    @Says(promise = 8, words = "Takes the last n blocks from a file; they are used no more.")
    void shrinkTakesTheLast() {
        Volume v = volume();
        row(v, 5, 1);
        is(3, v.shrink(16, 2));
        isList(v, 16, 0, 1, 2);
        is(0, v.check());
        is(3, v.grow(17, 2));
        isList(v, 17, 5, 6, 7);
        is(5, v.grow(16, 2));
        isList(v, 16, 0, 1, 2, 3, 4);
    }

    @Says(promise = 8, words = "they are used no more")
    void shrinkGivesSpaceBack() {
        Volume v = volume(USED_UP);
        is(NO_SPACE, v.grow(HIDDEN_FILE, 1));
        is(46, v.shrink(FILE, 1));
        is(NO_SPACE, v.grow(HIDDEN_FILE, 2));
        is(2, v.grow(HIDDEN_FILE, 1));
        isList(v, HIDDEN_FILE, 2, 47);
    }

    @Says(promise = 8, words = "Answers how many blocks it has then.")
    void shrinkByOneAndByAll() {
        Volume v = volume();
        row(v, 48);
        is(47, v.shrink(16, 1));
        is(0, v.shrink(16, 47));
        is(0, v.extents(16));
        is(48, v.grow(16, 48));
        is(0, v.shrink(16, 48));
        is(0, v.size(16));
    }

    @Says(promise = 8, words = "BAD when n is not 1 .. 48")
    void shrinkByACount() {
        for (int n : NO_COUNTS) {
            refuses(BAD, HOUSE, v -> v.shrink(FILE, n));
            refuses(BAD, USED_UP, v -> v.shrink(FILE, n));
            refuses(BAD, HOUSE, v -> v.shrink(SECOND_LINK, n));
        }
    }

    @Says(promise = 8, words = "or (tested after MISSING) more than it has")
    void shrinkByAllThatItHasAndByOneMore() {
        refuses(BAD, HOUSE, v -> v.shrink(FILE, 3));
        refuses(BAD, HOUSE, v -> v.shrink(LINK, 2));
        refuses(BAD, USED_UP, v -> v.shrink(FILE, 48));
        is(0, volume(HOUSE).shrink(FILE, 2));
        is(0, volume(HOUSE).shrink(LINK, 1));
        is(0, volume(USED_UP).shrink(FILE, 47));
        Consumer<Volume> empty = v -> row(v, 0);
        refuses(BAD, empty, v -> v.shrink(16, 1));
        refuses(BAD, empty, v -> v.shrink(16, 48));
    }

    @Says(promise = 8, words = "MISSING when id is no file")
    void shrinkOfNoFile() {
        for (int id : NO_FILES) {
            refuses(MISSING, HOUSE, v -> v.shrink(id, 1));
        }
        for (int id : new int[] {FILE, HIDDEN_FILE, LINK, SECOND_LINK}) {
            is(true, volume(HOUSE).shrink(id, 1) >= 0);
        }
    }

    @Says(promise = 8, words = "OFFLINE; BAD when n is not 1 .. 48 or (tested after MISSING) more than it has; MISSING when id is no file.")
    void orderOfTheRefusalsOfShrink() {
        refuses(OFFLINE, offline(HOUSE), v -> v.shrink(FILE, 1));
        refuses(OFFLINE, offline(HOUSE), v -> v.shrink(FILE, 0));
        refuses(OFFLINE, offline(HOUSE), v -> v.shrink(FILE, 3));
        refuses(OFFLINE, offline(HOUSE), v -> v.shrink(FOLDER, 1));
        refuses(BAD, HOUSE, v -> v.shrink(FOLDER, 0));
        refuses(BAD, HOUSE, v -> v.shrink(GONE, 49));
        refuses(MISSING, HOUSE, v -> v.shrink(FOLDER, 48));
        refuses(MISSING, HOUSE, v -> v.shrink(ROOT, 1));
    }

    @Says(promise = 9, words = "How many blocks a file has.")
    void sizeOfNoneAndOfAll() {
        Volume v = volume();
        row(v, 0);
        is(0, v.size(16));
        v.grow(16, 48);
        is(48, v.size(16));
        refuses(2, HOUSE, w -> w.size(FILE));
    }

    @Says(promise = 9, words = "OFFLINE; MISSING when id is no file.")
    void sizeOfNoFile() {
        for (int id : NO_FILES) {
            refuses(MISSING, HOUSE, v -> v.size(id));
            refuses(OFFLINE, offline(HOUSE), v -> v.size(id));
        }
        refuses(OFFLINE, offline(HOUSE), v -> v.size(FILE));
    }

    @Says(promise = 10, words = "Block i (from 0) of a file.")
    void firstAndLastBlockOfAFile() {
        Volume v = volume();
        row(v, 1, 46, 1);
        is(0, v.block(16, 0));
        is(1, v.block(17, 0));
        is(46, v.block(17, 45));
        is(47, v.block(18, 0));
        v.remove(ROOT, 1);
        v.grow(18, 1);
        isList(v, 18, 47, 1);
        v.remove(ROOT, 0);
        v.grow(18, 46);
        is(46, v.block(18, 46));
        is(0, v.block(18, 47));
    }

    @Says(promise = 10, words = "BAD when i is no place of its list")
    void blockBeforeAndBehindTheList() {
        for (int i : new int[] {-1, 2, 3, 47, 48, Integer.MIN_VALUE, Integer.MAX_VALUE}) {
            refuses(BAD, HOUSE, v -> v.block(FILE, i));
            refuses(BAD, HOUSE, v -> v.block(SECOND_LINK, i));
        }
        Consumer<Volume> empty = v -> row(v, 0);
        refuses(BAD, empty, v -> v.block(16, 0));
        refuses(BAD, empty, v -> v.block(16, -1));
        Volume all = volume();
        row(all, 48);
        is(BAD, all.block(16, 48));
        all.shrink(16, 1);
        is(BAD, all.block(16, 47));
        is(46, all.block(16, 46));
    }

    @Says(promise = 10, words = "OFFLINE; MISSING when id is no file; BAD when i is no place of its list.")
    void orderOfTheRefusalsOfBlock() {
        for (int id : NO_FILES) {
            refuses(MISSING, HOUSE, v -> v.block(id, 0));
            refuses(MISSING, HOUSE, v -> v.block(id, -1));
            refuses(OFFLINE, offline(HOUSE), v -> v.block(id, 0));
        }
        refuses(MISSING, HOUSE, v -> v.block(GONE, 48));
        refuses(OFFLINE, offline(HOUSE), v -> v.block(FILE, 0));
        refuses(OFFLINE, offline(HOUSE), v -> v.block(FILE, -1));
        refuses(OFFLINE, offline(HOUSE), v -> v.block(FILE, 2));
    }

    @Says(promise = 11, words = "How many extents a file has.")
    void extentsFromNoneToTheMost() {
        Volume v = volume();
        row(v, 0, 0);
        is(0, v.extents(16));
        for (int i = 1; i <= 24; i++) {
            v.grow(16, 1);
            is(i, v.extents(16));
            v.grow(17, 1);
        }
        v.remove(ROOT, 1);
        is(25, v.grow(16, 1));
        is(47, v.block(16, 24));
        is(24, v.extents(16));
        is(48, v.grow(16, 23));
        is(47, v.extents(16));
        is(45, v.overflows());
        isOverflow(v, 21, 16, 23, 46, 2);
        isOverflow(v, 22, 16, 25, 1, 1);
        isOverflow(v, 44, 16, 47, 45, 1);
        is(BAD, v.overflow(45, 0));
        is(0, v.shrink(16, 48));
        is(0, v.extents(16));
        is(0, v.overflows());
    }

    @Says(promise = 11, words = "OFFLINE; MISSING when id is no file.")
    void extentsOfNoFile() {
        for (int id : NO_FILES) {
            refuses(MISSING, HOUSE, v -> v.extents(id));
            refuses(OFFLINE, offline(HOUSE), v -> v.extents(id));
        }
        refuses(OFFLINE, offline(HOUSE), v -> v.extents(FILE));
        refuses(1, HOUSE, v -> v.extents(FILE));
    }

    @Says(promise = 12, words = "The valence that is kept for a folder.")
    void valenceFromNoneToTwenty() {
        Volume v = volume();
        is(0, v.valence(ROOT));
        for (int i = 1; i <= 20; i++) {
            v.make(ROOT, i, i == 1);
            is(i, v.valence(ROOT));
        }
        is(FULL, v.make(ROOT, 0, false));
        is(20, v.valence(ROOT));
        for (int i = 2; i <= 20; i++) {
            v.move(ROOT, i, 16, i);
            is(21 - i, v.valence(ROOT));
            is(i - 1, v.valence(16));
        }
        for (int i = 20; i >= 2; i--) {
            v.remove(16, i);
            is(i - 2, v.valence(16));
        }
        is(1, v.valence(ROOT));
    }

    @Says(promise = 12, words = "OFFLINE; MISSING when id is no folder.")
    void valenceOfNoFolder() {
        for (int id : NO_FOLDERS) {
            refuses(MISSING, HOUSE, v -> v.valence(id));
            refuses(OFFLINE, offline(HOUSE), v -> v.valence(id));
        }
        refuses(OFFLINE, offline(HOUSE), v -> v.valence(ROOT));
        refuses(3, HOUSE, v -> v.valence(ROOT));
        refuses(0, HOUSE, v -> v.valence(INNER_FOLDER));
    }
}
