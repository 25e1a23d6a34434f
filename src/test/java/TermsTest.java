/** The boundary cases of the document's "Terms", which bind every promise. */
public final class TermsTest extends Boundary {
    public static void main(String[] args) throws IllegalAccessException {
        run(TermsTest::new);
    }

    @Says(promise = 0, words = "An object is used for at most 512 calls after it has been made")
    void theLastCallOfAnObject() {
        Volume v = volume();
        for (int i = 0; i < 255; i++) {
            is(16 + i, v.make(ROOT, 99, i % 2 == 0));
            is(16 + i, v.remove(ROOT, 99));
        }
        is(271, v.make(ROOT, 99, false));
        is(48, v.grow(271, 48));
    }

    @Says(promise = 0, words = "what is made gets the next id, 16, 17, 18, ..")
    void idsBeginAt16() {
        Volume v = volume();
        is(16, v.make(ROOT, 0, false));
        is(17, v.make(ROOT, 1, true));
        is(18, v.make(17, 0, false));
        is(20, v.link(ROOT, 0, ROOT, 2));
        is(19, v.find(ROOT, 0));
        is(21, v.link(ROOT, 2, ROOT, 3));
        is(22, v.make(ROOT, 4, true));
    }

    @Says(promise = 0, words = "ids are never used again")
    void idsOfWhatIsGone() {
        Volume v = volume();
        v.make(ROOT, 0, false);
        v.link(ROOT, 0, ROOT, 1);
        v.remove(ROOT, 1);
        v.remove(ROOT, 0);
        is(0, v.records());
        is(19, v.make(ROOT, 0, true));
        v.remove(ROOT, 0);
        is(20, v.make(ROOT, 0, true));
        v.unmount();
        v.mount();
        is(21, v.make(ROOT, 1, true));
    }

    @Says(promise = 0, words = "2 is the ROOT, a folder; 3 is the HIDDEN folder")
    void theRootIsAFolderAndTheHiddenFolderIsNone() {
        Volume v = volume();
        is(MISSING, v.make(1, 0, true));
        is(MISSING, v.make(HIDDEN_FOLDER, 0, true));
        is(MISSING, v.valence(HIDDEN_FOLDER));
        is(MISSING, v.size(ROOT));
        is(MISSING, v.size(HIDDEN_FOLDER));
        is(16, v.make(ROOT, 0, true));
        is(1, v.valence(ROOT));
    }

    @Says(promise = 0, words = "lies in a folder (the root, or a folder that is an entry itself) under a name")
    void foldersTwentyDeep() {
        Volume v = volume();
        is(16, v.make(ROOT, 0, true));
        for (int id = 17; id < 35; id++) {
            is(id, v.make(id - 1, 99, true));
        }
        is(35, v.make(34, 0, false));
        is(35, v.find(34, 0));
        is(48, v.grow(35, 48));
        is(FULL, v.make(34, 1, false));
        is(0, v.check());
    }

    @Says(promise = 0, words = "NAMES are 0 .. 99")
    void firstAndLastName() {
        for (int name : new int[] {0, 99}) {
            Volume v = volume();
            is(16, v.make(ROOT, name, false));
            is(16, v.find(ROOT, name));
            is(18, v.link(ROOT, name, ROOT, 99 - name));
            is(18, v.remove(ROOT, 99 - name));
            is(17, v.move(ROOT, name, ROOT, 99 - name));
            is(17, v.move(ROOT, 99 - name, ROOT, name));
            is(17, v.remove(ROOT, name));
        }
    }

    @Says(promise = 0, words = "no two entries of a folder have the same name")
    void oneNameInTwoFolders() {
        Volume v = volume();
        is(16, v.make(ROOT, 5, true));
        is(17, v.make(16, 5, true));
        is(18, v.make(17, 5, false));
        is(EXISTS, v.make(ROOT, 5, false));
        is(EXISTS, v.make(16, 5, false));
        is(EXISTS, v.make(17, 5, true));
        is(16, v.find(ROOT, 5));
        is(17, v.find(16, 5));
        is(18, v.find(17, 5));
    }

    @Says(promise = 0, words = "There are at most 20 entries")
    void twentyEntriesInAnyFolders() {
        Volume v = volume();
        int deepest = ROOT;
        for (int i = 0; i < 20; i++) {
            is(16 + i, v.make(deepest, 99, i % 4 != 3));
            deepest = i % 4 == 3 ? ROOT : 16 + i;
            if (i % 4 == 3) {
                is(16 + i - 3, v.move(ROOT, 99, ROOT, i));
            }
        }
        is(FULL, v.make(ROOT, 99, true));
        is(FULL, v.make(16, 98, false));
        is(19, v.remove(18, 99));
        is(36, v.make(16, 98, false));
        is(FULL, v.make(ROOT, 99, true));
    }

    @Says(promise = 0, words = "A HIDDEN FILE is a file that lies in the hidden folder, under its own id as its name")
    void theNameOfAHiddenFileIsItsId() {
        Volume v = volume();
        v.make(ROOT, 0, false);
        v.link(ROOT, 0, ROOT, 1);
        isRow(v, 2, HIDDEN_FOLDER, 16, 2, 16, 0);
        isRow(v, 3, 16, -1, 5, HIDDEN_FOLDER, 16);
        for (int id = 19; id < 120; id++) {
            v.make(ROOT, 50, false);
            v.remove(ROOT, 50);
        }
        is(120, v.make(ROOT, 50, false));
        is(122, v.link(ROOT, 50, ROOT, 51));
        isRow(v, 5, HIDDEN_FOLDER, 120, 2, 120, 0);
        isRow(v, 9, 120, -1, 5, HIDDEN_FOLDER, 120);
        is(BAD, v.find(HIDDEN_FOLDER, 120));
        is(48, v.grow(122, 48));
        is(48, v.row(5, 4));
    }

    @Says(promise = 0, words = "it is no entry")
    void aHiddenFileIsNoEntry() {
        Volume v = volume(Boundary::house);
        is(MISSING, v.find(HIDDEN_FOLDER, HIDDEN_FILE));
        is(MISSING, v.remove(HIDDEN_FOLDER, HIDDEN_FILE));
        is(MISSING, v.move(HIDDEN_FOLDER, HIDDEN_FILE, ROOT, 9));
        is(MISSING, v.link(HIDDEN_FOLDER, HIDDEN_FILE, ROOT, 9));
        is(3, v.valence(ROOT));
        is(2, v.valence(FOLDER));
        for (int i = 5; i < 20; i++) {
            is(NEXT + i - 5, v.make(ROOT, 50 + i, false));
        }
        is(FULL, v.make(ROOT, 9, false));
    }

    @Says(promise = 0, words = "A link is for one hidden file")
    void linksOfTwoHiddenFiles() {
        Volume v = volume();
        v.make(ROOT, 0, false);
        v.make(ROOT, 1, false);
        v.link(ROOT, 0, ROOT, 2);
        v.link(ROOT, 1, ROOT, 3);
        v.link(ROOT, 2, ROOT, 4);
        v.grow(16, 1);
        v.grow(17, 2);
        isRow(v, 0, ROOT, 0, 3, 18, 16);
        isRow(v, 1, ROOT, 1, 3, 20, 17);
        isRow(v, 2, ROOT, 2, 3, 19, 16);
        isRow(v, 3, ROOT, 3, 3, 21, 17);
        isRow(v, 4, ROOT, 4, 3, 22, 16);
        is(1, v.size(22));
        is(2, v.size(21));
    }

    @Says(promise = 0, words = "THE CATALOG is a list of RECORDS, ordered by key id, then key name")
    void orderOfTheCatalog() {
        Volume v = volume();
        v.make(ROOT, 10, true);
        v.make(ROOT, 9, false);
        v.make(16, 0, false);
        v.make(ROOT, 0, false);
        v.make(ROOT, 99, false);
        v.make(16, 99, true);
        v.link(ROOT, 9, 21, 0);
        int[][] keys = {{ROOT, 0}, {ROOT, 9}, {ROOT, 10}, {ROOT, 99}, {HIDDEN_FOLDER, 17}, {16, -1}, {16, 0},
            {16, 99}, {17, -1}, {18, -1}, {19, -1}, {20, -1}, {21, -1}, {21, 0}, {22, -1}, {23, -1}};
        is(keys.length, v.records());
        for (int i = 0; i < keys.length; i++) {
            is(keys[i][0], v.row(i, 0));
            is(keys[i][1], v.row(i, 1));
        }
    }

    @Says(promise = 0, words = "ordered by key id")
    void idsOfThreeDigitsComeLast() {
        Volume v = volume();
        v.make(ROOT, 0, true);
        for (int id = 17; id < 99; id++) {
            v.make(ROOT, 1, false);
            v.remove(ROOT, 1);
        }
        is(99, v.make(16, 2, true));
        is(100, v.make(16, 1, true));
        int[] keys = {ROOT, 16, 16, 16, 99, 100};
        for (int i = 0; i < keys.length; i++) {
            is(keys[i], v.row(i, 0));
        }
        is(99, v.row(3, 3));
    }

    @Says(promise = 0, words = "For every entry and every hidden file there is a record")
    void twoRecordsForEach() {
        Volume v = volume();
        is(0, v.records());
        v.make(ROOT, 0, false);
        is(2, v.records());
        v.make(ROOT, 1, true);
        is(4, v.records());
        v.link(ROOT, 0, ROOT, 2);
        is(8, v.records());
        v.remove(ROOT, 0);
        is(6, v.records());
        v.remove(ROOT, 2);
        is(2, v.records());
        v.remove(ROOT, 1);
        is(0, v.records());
    }

    @Says(promise = 0, words = "a THREAD with its own id as key id and -1 as key name, which tells its folder and its name")
    void threadsFollowTheirEntries() {
        Volume v = volume(Boundary::house);
        v.move(FOLDER, 0, ROOT, 99);
        v.move(ROOT, 2, INNER_FOLDER, 0);
        v.move(ROOT, 3, INNER_FOLDER, 99);
        isRow(v, 5, INNER_FOLDER, -1, 4, ROOT, 99);
        isRow(v, 8, FILE, -1, 5, INNER_FOLDER, 0);
        isRow(v, 9, HIDDEN_FILE, -1, 5, HIDDEN_FOLDER, HIDDEN_FILE);
        isRow(v, 10, LINK, -1, 5, INNER_FOLDER, 99);
        isRow(v, 11, SECOND_LINK, -1, 5, FOLDER, 4);
    }

    @Says(promise = 0, words = "The root and the hidden folder have neither")
    void noRecordOfTheRootAndTheHiddenFolder() {
        Volume v = volume(Boundary::house);
        is(12, v.records());
        for (int i = 0; i < 12; i++) {
            boolean thread = v.row(i, 1) == -1;
            is(true, v.row(i, thread ? 0 : 3) >= 16);
        }
    }

    @Says(promise = 0, words = "What records tell (kind, value, more)")
    void everyKindOfRecord() {
        Volume v = volume(Boundary::house);
        isRow(v, 0, ROOT, 1, 1, FOLDER, 2);
        isRow(v, 1, ROOT, 2, 2, FILE, 2);
        isRow(v, 2, ROOT, 3, 3, LINK, HIDDEN_FILE);
        isRow(v, 3, HIDDEN_FOLDER, HIDDEN_FILE, 2, HIDDEN_FILE, 1);
        isRow(v, 4, FOLDER, -1, 4, ROOT, 1);
        isRow(v, 5, FOLDER, 0, 1, INNER_FOLDER, 0);
        isRow(v, 6, FOLDER, 4, 3, SECOND_LINK, HIDDEN_FILE);
        isRow(v, 7, INNER_FOLDER, -1, 4, FOLDER, 0);
        isRow(v, 8, FILE, -1, 5, ROOT, 2);
        isRow(v, 9, HIDDEN_FILE, -1, 5, HIDDEN_FOLDER, HIDDEN_FILE);
        isRow(v, 10, LINK, -1, 5, ROOT, 3);
        isRow(v, 11, SECOND_LINK, -1, 5, FOLDER, 4);
    }

    @Says(promise = 0, words = "2 file: its id, how many blocks it has")
    void aFileRecordTellsNoneAndAllBlocks() {
        Volume v = volume();
        v.make(ROOT, 0, false);
        isRow(v, 0, ROOT, 0, 2, 16, 0);
        v.grow(16, 48);
        isRow(v, 0, ROOT, 0, 2, 16, 48);
        v.shrink(16, 48);
        isRow(v, 0, ROOT, 0, 2, 16, 0);
    }

    @Says(promise = 0, words = "The valence of a folder (also of the root) is a number that is kept for it: how many entries lie in it")
    void valenceCountsWhatLiesDirectlyInIt() {
        Volume v = volume();
        v.make(ROOT, 0, true);
        v.make(16, 0, true);
        v.make(17, 0, true);
        is(1, v.valence(ROOT));
        is(1, v.valence(16));
        is(1, v.valence(17));
        is(0, v.valence(18));
        is(1, v.row(0, 4));
    }

    @Says(promise = 0, words = "A hidden file has a LINK COUNT that is kept: how many links are for it")
    void linkCountFromTwoToOneToNone() {
        Volume v = volume(Boundary::house);
        v.link(ROOT, 3, ROOT, 9);
        is(0, v.check());
        v.remove(ROOT, 9);
        is(0, v.check());
        v.remove(ROOT, 3);
        is(0, v.check());
        is(1, v.size(HIDDEN_FILE));
        v.remove(FOLDER, 4);
        is(0, v.check());
        is(MISSING, v.size(HIDDEN_FILE));
    }

    @Says(promise = 0, words = "BLOCKS 0 .. 47")
    void firstAndLastBlock() {
        Volume v = volume();
        v.make(ROOT, 0, false);
        is(48, v.grow(16, 48));
        is(0, v.block(16, 0));
        is(47, v.block(16, 47));
        is(NO_SPACE, v.grow(16, 1));
    }

    @Says(promise = 0, words = "its EXTENTS are the longest runs of blocks that follow one another in the list and in number")
    void runsThatGrewByPieces() {
        Volume v = volume();
        v.make(ROOT, 0, false);
        for (int i = 0; i < 5; i++) {
            v.grow(16, 1);
            is(1, v.extents(16));
        }
    }

    @Says(promise = 0, words = "follow one another in the list and in number")
    void a47BeforeA0IsNoRun() {
        Volume v = volume();
        v.make(ROOT, 0, false);
        v.make(ROOT, 1, false);
        v.grow(16, 1);
        v.grow(17, 47);
        v.remove(ROOT, 0);
        is(48, v.grow(17, 1));
        is(47, v.block(17, 46));
        is(0, v.block(17, 47));
        is(2, v.extents(17));
    }

    @Says(promise = 0, words = "follow one another in the list and in number")
    void fallingNumbersAndGapsAreNoRuns() {
        Volume v = volume();
        for (int name = 0; name < 4; name++) {
            v.make(ROOT, name, false);
            v.grow(16 + name, 1);
        }
        v.remove(ROOT, 1);
        v.grow(18, 1);
        isList(v, 18, 2, 1);
        is(2, v.extents(18));
        v.shrink(18, 1);
        v.grow(16, 1);
        v.grow(16, 1);
        isList(v, 16, 0, 1, 4);
        is(2, v.extents(16));
    }

    @Says(promise = 0, words = "The first two are in the file's record; every further one is an OVERFLOW RECORD")
    void theThirdExtentOverflows() {
        Volume v = volume();
        v.make(ROOT, 0, false);
        for (int extents = 1; extents <= 4; extents++) {
            v.grow(16, 1);
            is(extents, v.extents(16));
            is(Math.max(0, extents - 2), v.overflows());
            int between = v.make(ROOT, extents, false);
            v.grow(between, 1);
        }
        is(3, v.shrink(16, 1));
        is(1, v.overflows());
        is(2, v.shrink(16, 1));
        is(0, v.overflows());
    }

    @Says(promise = 0, words = "the place in the list (from 0) where")
    void placesOfOverflowRecords() {
        Volume v = volume();
        v.make(ROOT, 0, false);
        v.make(ROOT, 1, false);
        for (int blocks = 1; blocks <= 4; blocks++) {
            v.grow(16, blocks);
            v.grow(17, 1);
        }
        is(4, v.overflows());
        isOverflow(v, 0, 16, 3, 5, 3);
        isOverflow(v, 1, 16, 6, 9, 4);
        isOverflow(v, 2, 17, 2, 8, 1);
        isOverflow(v, 3, 17, 3, 13, 1);
    }

    /** File 17 overflows first and has the lower name; the blocks of 16 fall from 9 to 1. */
    @Says(promise = 0, words = "overflow records are ordered by id, then place")
    void orderOfOverflowRecords() {
        Volume v = volume();
        v.make(ROOT, 9, false);
        v.make(ROOT, 0, false);
        v.make(ROOT, 1, false);
        v.make(ROOT, 2, false);
        for (int id : new int[] {17, 18, 17, 18, 17, 16, 18, 16, 18, 16, 19}) {
            v.grow(id, 1);
        }
        v.remove(ROOT, 1);
        v.grow(16, 2);
        v.grow(17, 1);
        isList(v, 16, 5, 7, 9, 1, 3);
        isList(v, 17, 0, 2, 4, 6);
        is(5, v.overflows());
        isOverflow(v, 0, 16, 2, 9, 1);
        isOverflow(v, 1, 16, 3, 1, 1);
        isOverflow(v, 2, 16, 4, 3, 1);
        isOverflow(v, 3, 17, 2, 4, 1);
        isOverflow(v, 4, 17, 3, 6, 1);
    }

    @Says(promise = 0, words = "Wherever a call takes the id of a file, that of a link means its hidden file")
    void linksAndTheHiddenFileMeanOneList() {
        for (int id : new int[] {HIDDEN_FILE, LINK, SECOND_LINK}) {
            Volume v = volume(Boundary::house);
            is(4, v.grow(id, 3));
            is(1, v.extents(id));
            is(3, v.block(id, 1));
            is(2, v.shrink(id, 2));
            for (int same : new int[] {HIDDEN_FILE, LINK, SECOND_LINK}) {
                isList(v, same, 2, 3);
            }
            is(2, v.size(FILE));
        }
    }

    @Says(promise = 0, words = "At first the volume is MOUNTED, there are no entries, nothing is used")
    void atFirst() {
        Volume v = volume();
        is(0, v.valence(ROOT));
        is(0, v.records());
        is(0, v.overflows());
        is(16, v.make(ROOT, 0, false));
        is(48, v.grow(16, 48));
        is(true, v.unmount());
    }

    @Says(promise = 0, words = "\"No folder\" means: neither 2 nor the id of an entry that is a folder")
    void whatIsNoFolder() {
        Volume v = volume(Boundary::house);
        for (int id : NO_FOLDERS) {
            is(MISSING, v.make(id, 9, true));
            is(MISSING, v.link(id, 2, ROOT, 9));
            is(MISSING, v.link(ROOT, 2, id, 9));
            is(MISSING, v.remove(id, 2));
            is(MISSING, v.move(id, 2, ROOT, 9));
            is(MISSING, v.move(ROOT, 2, id, 9));
            is(MISSING, v.find(id, 2));
            is(MISSING, v.valence(id));
        }
        for (int id : new int[] {ROOT, FOLDER, INNER_FOLDER}) {
            is(true, v.make(id, 99, true) >= NEXT);
        }
    }

    /** One refusal of every kind after the other on one volume; none leaves a trace, nor takes an id. */
    @Says(promise = 0, words = "a call that is refused changes nothing")
    void refusedCallsChangeNothingTogether() {
        Volume v = volume(Boundary::fullHouse);
        is(BAD, v.make(ROOT, 100, false));
        is(MISSING, v.make(GONE, 9, false));
        is(EXISTS, v.make(ROOT, 1, false));
        is(FULL, v.make(ROOT, 9, false));
        is(BAD, v.link(ROOT, 2, ROOT, -1));
        is(MISSING, v.link(ROOT, 1, ROOT, 9));
        is(EXISTS, v.link(ROOT, 2, ROOT, 2));
        is(FULL, v.link(ROOT, 2, ROOT, 9));
        is(BAD, v.remove(ROOT, 100));
        is(MISSING, v.remove(ROOT, 9));
        is(NOT_EMPTY, v.remove(ROOT, 1));
        is(BAD, v.move(ROOT, 2, ROOT, 100));
        is(MISSING, v.move(ROOT, 2, GONE, 9));
        is(LOOP, v.move(ROOT, 1, FOLDER, 9));
        is(EXISTS, v.move(ROOT, 2, ROOT, 3));
        is(BAD, v.grow(FILE, 0));
        is(MISSING, v.grow(FOLDER, 1));
        is(NO_SPACE, v.grow(FILE, 48));
        is(BAD, v.shrink(FILE, 3));
        is(MISSING, v.shrink(FOLDER, 1));
        is(false, v.mount());
        is(false, v.harm(1, 0));
        is(-1, v.mend());
        isLike(v, volume(Boundary::fullHouse));
    }

    @Says(promise = 0, words = "Calls that name OFFLINE first are refused so when the volume is not mounted")
    void whatIsRefusedOffline() {
        Volume v = volume(offline(Boundary::house));
        is(OFFLINE, v.make(ROOT, 9, true));
        is(OFFLINE, v.link(ROOT, 2, ROOT, 9));
        is(OFFLINE, v.remove(ROOT, 2));
        is(OFFLINE, v.move(ROOT, 2, ROOT, 9));
        is(OFFLINE, v.find(ROOT, 2));
        is(OFFLINE, v.grow(FILE, 1));
        is(OFFLINE, v.shrink(FILE, 1));
        is(OFFLINE, v.size(FILE));
        is(OFFLINE, v.block(FILE, 0));
        is(OFFLINE, v.extents(FILE));
        is(OFFLINE, v.valence(ROOT));
        isLike(v, volume(offline(Boundary::house)));
    }

    @Says(promise = 0, words = "Calls that name OFFLINE first")
    void whatIsNotRefusedOffline() {
        Volume v = volume(offline(Boundary::house));
        is(12, v.records());
        is(ROOT, v.row(0, 0));
        is(0, v.overflows());
        is(BAD, v.overflow(0, 0));
        is(0, v.check());
        is(true, v.harm(0, ROOT));
        is(1, v.mend());
        is(true, v.mount());
    }

    @Says(promise = 0, words = "Calls that name OFFLINE first are refused so when the volume is not mounted")
    void aMountThatFailsLeavesItOffline() {
        Volume v = volume(offline(Boundary::house));
        v.harm(1, 47);
        is(false, v.mount());
        is(OFFLINE, v.find(ROOT, 1));
        v.harm(1, 47);
        is(true, v.mount());
        is(FOLDER, v.find(ROOT, 1));
    }

    @Says(promise = 0, words = "The constants")
    void theConstants() {
        is(OFFLINE, CatalogVolume.OFFLINE);
        is(BAD, CatalogVolume.BAD);
        is(MISSING, CatalogVolume.MISSING);
        is(EXISTS, CatalogVolume.EXISTS);
        is(FULL, CatalogVolume.FULL);
        is(NOT_EMPTY, CatalogVolume.NOT_EMPTY);
        is(LOOP, CatalogVolume.LOOP);
        is(NO_SPACE, CatalogVolume.NO_SPACE);
    }
}
