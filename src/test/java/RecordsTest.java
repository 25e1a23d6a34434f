import java.util.function.Consumer;

/** The boundary cases of promises 13 to 16: records, row, overflows, overflow. */
public final class RecordsTest extends Boundary {
    private static final Consumer<Volume> HOUSE = Boundary::house;
    private static final Consumer<Volume> NOTHING = v -> { };
    private static final Consumer<Volume> COMB = RecordsTest::comb;
    private static final int[] FAR = {Integer.MIN_VALUE, Integer.MAX_VALUE};

    public static void main(String[] args) throws IllegalAccessException {
        run(RecordsTest::new);
    }

    /** Files 16 and 17 by turns get 1, 2, 3 blocks: one overflow record each. */
    private static void comb(Volume v) {
        v.make(ROOT, 0, false);
        v.make(ROOT, 1, false);
        for (int n = 1; n <= 3; n++) {
            v.grow(16, n);
            v.grow(17, n);
        }
    }

    @Says(promise = 13, words = "How many records the catalog has, mounted or not.")
    void recordsOfNothingAndOfTheHouse() {
        refuses(0, NOTHING, Volume::records);
        refuses(0, offline(NOTHING), Volume::records);
        refuses(12, HOUSE, Volume::records);
        refuses(12, offline(HOUSE), Volume::records);
        refuses(42, Boundary::fullHouse, Volume::records);
    }

    @Says(promise = 13, words = "How many records the catalog has")
    void theMostRecords() {
        Volume v = volume();
        for (int i = 0; i < 19; i++) {
            v.make(ROOT, i, false);
            v.link(ROOT, i, ROOT, 99);
            v.remove(ROOT, 99);
        }
        v.make(ROOT, 99, false);
        is(78, v.records());
        is(73, v.row(77, 0));
        is(BAD, v.row(78, 0));
        is(FULL, v.link(ROOT, 99, ROOT, 98));
        is(78, v.records());
        is(0, v.check());
    }

    @Says(promise = 13, words = "mounted or not")
    void recordsWithoutThreads() {
        Volume v = volume(offline(HOUSE));
        int left = 12;
        for (int id = FOLDER; id <= SECOND_LINK; id++) {
            is(true, v.harm(2, id));
            left--;
            is(left, v.records());
        }
        is(BAD, v.row(6, 0));
        is(FOLDER, v.row(4, 0));
        is(4, v.row(5, 1));
        is(6, v.mend());
        is(12, v.records());
    }

    @Says(promise = 14, words = "BAD when there is no such record")
    void rowBeforeTheFirstAndBehindTheLast() {
        for (int which = 0; which <= 4; which++) {
            int field = which;
            refuses(BAD, NOTHING, v -> v.row(0, field));
            refuses(BAD, HOUSE, v -> v.row(-1, field));
            refuses(BAD, HOUSE, v -> v.row(12, field));
            refuses(BAD, offline(HOUSE), v -> v.row(-1, field));
            refuses(BAD, offline(HOUSE), v -> v.row(12, field));
            for (int far : FAR) {
                refuses(BAD, HOUSE, v -> v.row(far, field));
            }
        }
        refuses(ROOT, HOUSE, v -> v.row(0, 0));
        refuses(SECOND_LINK, HOUSE, v -> v.row(11, 0));
        refuses(SECOND_LINK, offline(HOUSE), v -> v.row(11, 0));
    }

    @Says(promise = 14, words = "or which is not 0 .. 4")
    void rowNeedsAField() {
        for (int i : new int[] {0, 4, 11}) {
            for (int which : new int[] {-1, 5, 6, Integer.MIN_VALUE, Integer.MAX_VALUE}) {
                refuses(BAD, HOUSE, v -> v.row(i, which));
                refuses(BAD, offline(HOUSE), v -> v.row(i, which));
            }
        }
        refuses(BAD, HOUSE, v -> v.row(12, 5));
        refuses(BAD, HOUSE, v -> v.row(-1, -1));
    }

    @Says(promise = 14, words = "0 its key id, 1 its key name, 2 its kind, 3 its value, 4 its more; mounted or not.")
    void rowsOfTheFirstAndTheLastRecord() {
        Volume v = volume(HOUSE);
        isRow(v, 0, ROOT, 1, 1, FOLDER, 2);
        isRow(v, 11, SECOND_LINK, -1, 5, FOLDER, 4);
        v.unmount();
        isRow(v, 0, ROOT, 1, 1, FOLDER, 2);
        isRow(v, 11, SECOND_LINK, -1, 5, FOLDER, 4);
    }

    @Says(promise = 14, words = "(A key name may be -1.)")
    void aKeyNameOfMinusOneIsNoRefusal() {
        refuses(-1, HOUSE, v -> v.row(4, 1));
        refuses(-1, offline(HOUSE), v -> v.row(4, 1));
        refuses(FOLDER, HOUSE, v -> v.row(4, 0));
        refuses(4, HOUSE, v -> v.row(4, 2));
    }

    @Says(promise = 15, words = "How many overflow records there are, mounted or not.")
    void overflowsFromNone() {
        refuses(0, NOTHING, Volume::overflows);
        refuses(0, HOUSE, Volume::overflows);
        refuses(2, COMB, Volume::overflows);
        refuses(2, offline(COMB), Volume::overflows);
        Volume v = volume(COMB);
        is(5, v.shrink(16, 1));
        is(2, v.overflows());
        is(3, v.shrink(16, 2));
        is(1, v.overflows());
        v.remove(ROOT, 1);
        is(0, v.overflows());
    }

    @Says(promise = 15, words = "How many overflow records there are")
    void overflowsOfAHiddenFileCountOnce() {
        Volume v = volume(COMB);
        v.link(ROOT, 0, ROOT, 2);
        v.link(ROOT, 0, ROOT, 3);
        is(2, v.overflows());
        isOverflow(v, 0, 16, 3, 6, 3);
        isOverflow(v, 1, 17, 3, 9, 3);
        v.remove(ROOT, 0);
        v.remove(ROOT, 2);
        is(2, v.overflows());
        v.remove(ROOT, 3);
        is(1, v.overflows());
    }

    @Says(promise = 16, words = "0 the id, 1 the place, 2 the first block, 3 how many; mounted or not.")
    void overflowOfTheFirstAndTheLast() {
        Volume v = volume(COMB);
        isOverflow(v, 0, 16, 3, 6, 3);
        isOverflow(v, 1, 17, 3, 9, 3);
        v.unmount();
        isOverflow(v, 0, 16, 3, 6, 3);
        isOverflow(v, 1, 17, 3, 9, 3);
    }

    @Says(promise = 16, words = "3 how many")
    void howManyOfALongExtentAndOfACutOne() {
        Volume v = volume(COMB);
        is(42, v.grow(17, 36));
        isOverflow(v, 1, 17, 3, 9, 39);
        is(4, v.shrink(17, 38));
        isOverflow(v, 1, 17, 3, 9, 1);
        is(3, v.shrink(17, 1));
        is(BAD, v.overflow(1, 0));
    }

    @Says(promise = 16, words = "BAD when there is no such record")
    void overflowBeforeTheFirstAndBehindTheLast() {
        for (int which = 0; which <= 3; which++) {
            int field = which;
            refuses(BAD, NOTHING, v -> v.overflow(0, field));
            refuses(BAD, HOUSE, v -> v.overflow(0, field));
            refuses(BAD, COMB, v -> v.overflow(-1, field));
            refuses(BAD, COMB, v -> v.overflow(2, field));
            refuses(BAD, offline(COMB), v -> v.overflow(-1, field));
            refuses(BAD, offline(COMB), v -> v.overflow(2, field));
            for (int far : FAR) {
                refuses(BAD, COMB, v -> v.overflow(far, field));
            }
        }
    }

    @Says(promise = 16, words = "or which is not 0 .. 3")
    void overflowNeedsAField() {
        for (int i = 0; i <= 1; i++) {
            int record = i;
            for (int which : new int[] {-1, 4, 5, Integer.MIN_VALUE, Integer.MAX_VALUE}) {
                refuses(BAD, COMB, v -> v.overflow(record, which));
                refuses(BAD, offline(COMB), v -> v.overflow(record, which));
            }
        }
        refuses(BAD, COMB, v -> v.overflow(2, 4));
    }
}
