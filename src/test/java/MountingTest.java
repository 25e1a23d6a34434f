import java.util.function.Consumer;

/** The boundary cases of promises 17 to 21: unmount, harm, check, mount, mend. */
public final class MountingTest extends Boundary {
    private static final Consumer<Volume> HOUSE = Boundary::house;
    private static final Consumer<Volume> OFF = offline(Boundary::house);
    private static final Consumer<Volume> NOTHING = v -> { };
    private static final int[] FAR = {Integer.MIN_VALUE, -1, Integer.MAX_VALUE};

    public static void main(String[] args) throws IllegalAccessException {
        run(MountingTest::new);
    }

    private static void harmAll(Volume v, int what, int... many) {
        for (int a : many) {
            v.harm(what, a);
        }
    }

    /** One harm for each bit of check that is in the sum: the root, blocks 1 and 47, a thread, a count. */
    private static void harmBits(Volume v, int sum) {
        if ((sum & 1) != 0) {
            v.harm(0, ROOT);
        }
        if ((sum & 2) != 0) {
            v.harm(1, 1);
        }
        if ((sum & 4) != 0) {
            v.harm(1, 47);
        }
        if ((sum & 8) != 0) {
            v.harm(2, FILE);
        }
        if ((sum & 16) != 0) {
            v.harm(3, HIDDEN_FILE);
        }
    }

    @Says(promise = 17, words = "The volume is not mounted any more: true; false when it is not mounted.")
    void unmountOnceAndTwice() {
        Volume v = volume(HOUSE);
        is(true, v.unmount());
        is(OFFLINE, v.find(ROOT, 1));
        is(false, v.unmount());
        is(OFFLINE, v.find(ROOT, 1));
        is(true, v.mount());
        is(true, v.unmount());
        refuses(OFF, Volume::unmount);
        refuses(offline(NOTHING), Volume::unmount);
    }

    @Says(promise = 17, words = "The volume is not mounted any more: true")
    void unmountChangesNothingElse() {
        Volume v = volume(HOUSE);
        v.unmount();
        v.mount();
        isLike(v, volume(HOUSE));
    }

    @Says(promise = 18, words = "false when the volume is mounted")
    void harmOfAMountedVolume() {
        for (int a : new int[] {ROOT, FOLDER}) {
            refuses(HOUSE, v -> v.harm(0, a));
        }
        for (int a : new int[] {0, 47}) {
            refuses(HOUSE, v -> v.harm(1, a));
        }
        for (int a = FOLDER; a <= SECOND_LINK; a++) {
            int id = a;
            refuses(HOUSE, v -> v.harm(2, id));
        }
        refuses(HOUSE, v -> v.harm(3, HIDDEN_FILE));
        Consumer<Volume> again = OFF.andThen(Volume::mount);
        refuses(again, v -> v.harm(1, 0));
    }

    @Says(promise = 18, words = "what is not 0 .. 3")
    void harmOfNoKind() {
        for (int what : new int[] {-1, 4, 5, Integer.MIN_VALUE, Integer.MAX_VALUE}) {
            for (int a : new int[] {0, ROOT, FOLDER, FILE, HIDDEN_FILE}) {
                refuses(OFF, v -> v.harm(what, a));
            }
        }
        Volume v = volume(OFF);
        is(true, v.harm(0, ROOT));
        is(true, v.harm(3, HIDDEN_FILE));
    }

    @Says(promise = 18, words = "what 0: the valence kept for folder a (an id, 2 too) grows by 1")
    void harmOfEveryValence() {
        for (int folder : new int[] {ROOT, FOLDER, INNER_FOLDER}) {
            Volume v = volume(OFF);
            is(true, v.harm(0, folder));
            is(1, v.check());
            is(folder == FOLDER ? 3 : 2, v.row(0, 4));
            is(folder == INNER_FOLDER ? 1 : 0, v.row(5, 4));
            is(true, v.harm(0, folder));
            is(folder == FOLDER ? 4 : 2, v.row(0, 4));
            is(folder == INNER_FOLDER ? 2 : 0, v.row(5, 4));
            is(1, v.mend());
            isLike(v, volume(OFF));
        }
    }

    @Says(promise = 18, words = "there is no such folder")
    void harmOfNoFolder() {
        for (int a : NO_FOLDERS) {
            refuses(OFF, v -> v.harm(0, a));
        }
    }

    @Says(promise = 18, words = "1: the map's word on block a is turned round")
    void harmOfEveryBlock() {
        for (int block = 0; block < 48; block++) {
            Volume v = volume(OFF);
            is(true, v.harm(1, block));
            is(block < 3 ? 2 : 4, v.check());
            is(true, v.harm(1, block));
            is(0, v.check());
        }
    }

    @Says(promise = 18, words = "there is no such folder, block, thread or hidden file")
    void harmOfNoBlock() {
        for (int a : new int[] {-1, 48, 49, Integer.MIN_VALUE, Integer.MAX_VALUE}) {
            refuses(OFF, v -> v.harm(1, a));
        }
        Volume v = volume(OFF);
        is(true, v.harm(1, 0));
        is(true, v.harm(1, 47));
    }

    @Says(promise = 18, words = "2: the thread of a, an entry or hidden file by its own id, is gone")
    void harmOfEveryThread() {
        for (int id = FOLDER; id <= SECOND_LINK; id++) {
            Volume v = volume(OFF);
            is(true, v.harm(2, id));
            is(11, v.records());
            for (int i = 0; i < 11; i++) {
                is(false, v.row(i, 1) == -1 && v.row(i, 0) == id);
            }
            is(8, v.check());
            is(false, v.harm(2, id));
            is(11, v.records());
            is(1, v.mend());
            is(true, v.harm(2, id));
            is(1, v.mend());
            isLike(v, volume(OFF));
        }
    }

    @Says(promise = 18, words = "block, thread or hidden file")
    void harmOfNoThread() {
        for (int a : new int[] {-1, 0, ROOT, HIDDEN_FOLDER, 4, 15, GONE, NEXT, Integer.MIN_VALUE, Integer.MAX_VALUE}) {
            refuses(OFF, v -> v.harm(2, a));
        }
        for (int id = FOLDER; id <= SECOND_LINK; id++) {
            int without = id;
            refuses(OFF.andThen(v -> v.harm(2, without)), v -> v.harm(2, without));
        }
    }

    @Says(promise = 18, words = "3: the link count kept for hidden file a (by its own id) grows by 1")
    void harmOfALinkCount() {
        Volume v = volume(OFF);
        is(true, v.harm(3, HIDDEN_FILE));
        is(16, v.check());
        is(true, v.harm(3, HIDDEN_FILE));
        is(16, v.check());
        is(12, v.records());
        is(1, v.mend());
        isLike(v, volume(OFF));
    }

    @Says(promise = 18, words = "hidden file a (by its own id)")
    void harmOfAHiddenFileWithOneLinkLeft() {
        Volume v = volume(HOUSE);
        v.remove(ROOT, 3);
        v.unmount();
        is(true, v.harm(3, HIDDEN_FILE));
        is(16, v.check());
        is(1, v.mend());
        v.mount();
        v.remove(FOLDER, 4);
        is(MISSING, v.size(HIDDEN_FILE));
        v.unmount();
        is(false, v.harm(3, HIDDEN_FILE));
        is(false, v.harm(2, HIDDEN_FILE));
    }

    @Says(promise = 18, words = "thread or hidden file")
    void harmOfNoHiddenFile() {
        for (int a : new int[] {-1, 0, ROOT, HIDDEN_FOLDER, 4, 15, FOLDER, FILE, LINK, SECOND_LINK, GONE, NEXT,
            Integer.MIN_VALUE, Integer.MAX_VALUE}) {
            refuses(OFF, v -> v.harm(3, a));
        }
    }

    @Says(promise = 18, words = "there is no such folder")
    void harmOnAnEmptyVolume() {
        for (int what = 0; what <= 3; what++) {
            int kind = what;
            for (int a : FAR) {
                refuses(offline(NOTHING), v -> v.harm(kind, a));
            }
            if (what != 1) {
                refuses(offline(NOTHING), v -> v.harm(kind, 16));
            }
        }
        Volume v = volume(offline(NOTHING));
        is(true, v.harm(0, ROOT));
        is(true, v.harm(1, 16));
        is(5, v.check());
        is(2, v.mend());
    }

    @Says(promise = 19, words = "What does not fit together, mounted or not, as a sum")
    void checkOfEverySum() {
        for (int sum = 0; sum < 32; sum++) {
            Volume v = volume(OFF);
            harmBits(v, sum);
            is(sum, v.check());
            is(sum, v.check());
            is(sum == 0, v.mount());
            is(sum == 0 ? -1 : Integer.bitCount(sum), v.mend());
            is(0, v.check());
        }
    }

    @Says(promise = 19, words = "mounted or not")
    void checkOfAMountedVolume() {
        refuses(0, NOTHING, Volume::check);
        refuses(0, HOUSE, Volume::check);
        refuses(0, OFF, Volume::check);
        refuses(0, Boundary::usedUp, Volume::check);
        refuses(0, Boundary::fullHouse, Volume::check);
        refuses(0, offline(Boundary::usedUp), Volume::check);
    }

    @Says(promise = 19, words = "1 when a valence is not the number of entries in its folder")
    void manyValencesAreOneBit() {
        Volume v = volume(OFF);
        harmAll(v, 0, ROOT, FOLDER, INNER_FOLDER, INNER_FOLDER);
        is(1, v.check());
    }

    @Says(promise = 19, words = "2 when a block in the list of a file is not used by the map's word")
    void blocksOfAFileAndOfAHiddenFile() {
        for (int block = 0; block < 48; block++) {
            Volume v = volume(offline(Boundary::usedUp));
            v.harm(1, block);
            is(2, v.check());
            v.harm(1, 47 - block);
            is(2, v.check());
        }
    }

    @Says(promise = 19, words = "4 when a block that is used by it is in no list")
    void blocksOfNoFile() {
        for (int block = 0; block < 48; block++) {
            Volume v = volume(offline(NOTHING));
            v.harm(1, block);
            is(4, v.check());
            v.harm(1, 47 - block);
            is(4, v.check());
        }
    }

    @Says(promise = 19, words = "4 when a block that is used by it is in no list")
    void blocksThatAFileHadBefore() {
        Volume v = volume(HOUSE);
        v.shrink(FILE, 1);
        v.remove(ROOT, 3);
        v.remove(FOLDER, 4);
        v.unmount();
        v.harm(1, 1);
        is(4, v.check());
        v.harm(1, 1);
        v.harm(1, 2);
        is(4, v.check());
        v.harm(1, 0);
        is(6, v.check());
    }

    @Says(promise = 19, words = "8 when an entry or hidden file has no thread")
    void manyThreadsAreOneBit() {
        Volume v = volume(OFF);
        for (int id = FOLDER; id <= SECOND_LINK; id++) {
            v.harm(2, id);
            is(8, v.check());
        }
    }

    @Says(promise = 19, words = "16 when a link count is not the number of links for its hidden file")
    void countsOfTwoHiddenFiles() {
        Volume v = volume(HOUSE);
        v.link(ROOT, 2, ROOT, 9);
        v.link(ROOT, 2, ROOT, 10);
        v.unmount();
        is(0, v.check());
        v.harm(3, FILE);
        is(16, v.check());
        v.harm(3, HIDDEN_FILE);
        is(16, v.check());
        is(2, v.mend());
        is(0, v.check());
    }

    @Says(promise = 19, words = "16 when a link count is not the number of links for its hidden file")
    void countsOfTheFirstAndTheLastThatWereMade() {
        for (int hidden : new int[] {16, 18}) {
            Volume v = volume();
            for (int name = 0; name < 3; name++) {
                v.make(ROOT, name, false);
            }
            v.link(ROOT, hidden - 16, ROOT, 99);
            v.unmount();
            is(true, v.harm(3, hidden));
            is(16, v.check());
            is(false, v.mount());
            is(1, v.mend());
            is(true, v.mount());
        }
    }

    @Says(promise = 20, words = "Mounts a volume that is not mounted, if check() is 0: true; otherwise false.")
    void mountOfWhatIsMounted() {
        refuses(NOTHING, Volume::mount);
        refuses(HOUSE, Volume::mount);
        Volume v = volume(OFF);
        is(true, v.mount());
        is(false, v.mount());
        is(3, v.valence(ROOT));
        isLike(v, volume(HOUSE));
    }

    @Says(promise = 20, words = "if check() is 0: true; otherwise false")
    void mountOfWhatDoesNotFit() {
        for (int bit = 1; bit <= 16; bit *= 2) {
            int sum = bit;
            Consumer<Volume> harmed = OFF.andThen(v -> harmBits(v, sum));
            refuses(harmed, Volume::mount);
            Volume v = volume(harmed);
            is(false, v.mount());
            is(OFFLINE, v.valence(ROOT));
            is(sum, v.check());
        }
    }

    @Says(promise = 20, words = "if check() is 0: true")
    void mountOfWhatFitsAgain() {
        Volume v = volume(OFF);
        v.harm(1, 0);
        v.harm(1, 40);
        is(false, v.mount());
        v.harm(1, 40);
        is(false, v.mount());
        v.harm(1, 0);
        is(true, v.mount());
        isLike(v, volume(HOUSE));
    }

    @Says(promise = 21, words = "-1 when the volume is mounted")
    void mendOfAMountedVolume() {
        refuses(-1, NOTHING, Volume::mend);
        refuses(-1, HOUSE, Volume::mend);
        refuses(0, OFF, Volume::mend);
        refuses(0, offline(NOTHING), Volume::mend);
    }

    @Says(promise = 21, words = "each that is wrong is one, by however much")
    void mendOfWhatIsWrongByMuch() {
        Volume v = volume(OFF);
        harmAll(v, 0, ROOT, ROOT, ROOT, FOLDER);
        harmAll(v, 3, HIDDEN_FILE, HIDDEN_FILE, HIDDEN_FILE);
        is(3, v.mend());
        is(0, v.mend());
        isLike(v, volume(OFF));
    }

    @Says(promise = 21, words = "Answers how many valences, words, counts and threads it put right together")
    void mendOfEverything() {
        Volume v = volume(OFF);
        harmAll(v, 0, ROOT, FOLDER, INNER_FOLDER);
        for (int block = 0; block < 48; block++) {
            v.harm(1, block);
        }
        harmAll(v, 2, FOLDER, INNER_FOLDER, FILE, HIDDEN_FILE, LINK, SECOND_LINK);
        v.harm(3, HIDDEN_FILE);
        is(31, v.check());
        is(6, v.records());
        is(3 + 48 + 6 + 1, v.mend());
        is(0, v.check());
        isLike(v, volume(OFF));
    }

    @Says(promise = 21, words = "words of the map")
    void mendOfAnEmptyAndOfAFullMap() {
        Volume empty = volume(offline(NOTHING));
        Volume full = volume(offline(Boundary::usedUp));
        for (int block = 0; block < 48; block++) {
            empty.harm(1, block);
            full.harm(1, block);
        }
        is(4, empty.check());
        is(48, empty.mend());
        is(2, full.check());
        is(48, full.mend());
        isLike(empty, volume(offline(NOTHING)));
        isLike(full, volume(offline(Boundary::usedUp)));
    }

    @Says(promise = 21, words = "wrong valences")
    void mendOfTwentyOneValences() {
        Volume v = volume();
        for (int i = 0; i < 20; i++) {
            v.make(i == 0 ? ROOT : 15 + i, 0, true);
        }
        v.unmount();
        v.harm(0, ROOT);
        for (int id = 16; id < 36; id++) {
            v.harm(0, id);
        }
        is(21, v.mend());
        v.mount();
        is(1, v.valence(ROOT));
        is(1, v.valence(16));
        is(0, v.valence(35));
    }

    @Says(promise = 21, words = "threads that are missing")
    void mendOfThreadsTellsWhereEachLiesNow() {
        Volume v = volume(HOUSE);
        v.move(ROOT, 2, INNER_FOLDER, 99);
        v.move(FOLDER, 0, ROOT, 0);
        v.unmount();
        harmAll(v, 2, FILE, INNER_FOLDER);
        is(2, v.mend());
        isRow(v, 6, INNER_FOLDER, -1, 4, ROOT, 0);
        isRow(v, 8, FILE, -1, 5, INNER_FOLDER, 99);
        is(12, v.records());
    }

    @Says(promise = 21, words = "Puts a volume that is not mounted right")
    void mendDoesNotMount() {
        Volume v = volume(OFF);
        harmBits(v, 31);
        is(5, v.mend());
        is(OFFLINE, v.find(ROOT, 1));
        is(false, v.unmount());
        is(true, v.mount());
        isLike(v, volume(HOUSE));
    }

    @Says(promise = 21, words = "link counts")
    void aMendedLinkCountLetsTheFileGo() {
        Volume v = volume(OFF);
        harmAll(v, 3, HIDDEN_FILE, HIDDEN_FILE);
        v.mend();
        v.mount();
        is(LINK, v.remove(ROOT, 3));
        is(1, v.size(HIDDEN_FILE));
        is(SECOND_LINK, v.remove(FOLDER, 4));
        is(MISSING, v.size(HIDDEN_FILE));
        is(6, v.records());
        is(0, v.check());
    }
}
