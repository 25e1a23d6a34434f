import java.util.ArrayList;

/**
 * A volume of folders and files: one ordered catalog of records, a map of blocks, extents that
 * overflow into records of their own, and hard links by way of hidden files.
 */
public final class CatalogVolume {
    public static final int OFFLINE = -1;
    public static final int BAD = -2;
    public static final int MISSING = -3;
    public static final int EXISTS = -4;
    public static final int FULL = -5;
    public static final int NOT_EMPTY = -6;
    public static final int LOOP = -7;
    public static final int NO_SPACE = -8;

    private static final int ROOT_ID = 2;
    private static final int HIDDEN_FOLDER_ID = 3;
    private static final int FIRST_ID = 16;
    private static final int NAME_COUNT = 100;
    private static final int MOST_ENTRIES = 20;
    private static final int BLOCK_COUNT = 48;
    private static final int EXTENTS_IN_RECORD = 2;
    private static final int THREAD_NAME = -1;
    private static final int NOWHERE = -1;
    private static final int NOT_MENDED = -1;

    private static final int FOLDER_KIND = 1;
    private static final int FILE_KIND = 2;
    private static final int LINK_KIND = 3;
    private static final int FOLDER_THREAD_KIND = 4;
    private static final int OTHER_THREAD_KIND = 5;

    private static final int WRONG_VALENCE = 1;
    private static final int LISTED_BUT_NOT_USED = 2;
    private static final int USED_BUT_NOT_LISTED = 4;
    private static final int NO_THREAD = 8;
    private static final int WRONG_LINK_COUNT = 16;

    private final Folder root;
    /** The entries and the hidden files; new ones go to the end, so they stand in the order of their ids. */
    private final ArrayList<Item> items;
    private final Catalog catalog;
    private final BlockMap map;
    private boolean mounted;
    private int nextId;

    public CatalogVolume() {
        root = new Folder(ROOT_ID, NOWHERE, NOWHERE);
        items = new ArrayList<Item>();
        catalog = new Catalog();
        map = new BlockMap();
        mounted = true;
        nextId = FIRST_ID;
    }

    public int make(int parent, int name, boolean folder) {
        if (!mounted) {
            return OFFLINE;
        }
        if (!isName(name)) {
            return BAD;
        }
        Folder into = folderOf(parent);
        if (into == null) {
            return MISSING;
        }
        if (entryAt(parent, name) != null) {
            return EXISTS;
        }
        if (entryCount() >= MOST_ENTRIES) {
            return FULL;
        }
        int id = takeNextId();
        add(folder ? new Folder(id, parent, name) : new StoredFile(id, parent, name));
        into.entries++;
        return id;
    }

    public int link(int parent, int name, int toParent, int toName) {
        if (!mounted) {
            return OFFLINE;
        }
        if (!isName(name) || !isName(toName)) {
            return BAD;
        }
        Folder into = folderOf(toParent);
        StoredFile file = fileBehind(entryAt(parent, name));
        if (into == null || file == null) {
            return MISSING;
        }
        if (entryAt(toParent, toName) != null) {
            return EXISTS;
        }
        if (entryCount() >= MOST_ENTRIES) {
            return FULL;
        }
        if (!file.isHidden()) {
            hide(file);
        }
        into.entries++;
        return addLink(file, toParent, toName);
    }

    public int remove(int parent, int name) {
        if (!mounted) {
            return OFFLINE;
        }
        if (!isName(name)) {
            return BAD;
        }
        Folder from = folderOf(parent);
        Item entry = entryAt(parent, name);
        if (from == null || entry == null) {
            return MISSING;
        }
        if (entry instanceof Folder && entriesIn(entry.id) > 0) {
            return NOT_EMPTY;
        }
        drop(entry);
        from.entries--;
        if (entry instanceof StoredFile file) {
            cutTo(file, 0);
        } else if (entry instanceof Link link) {
            unlink(link.file);
        }
        return entry.id;
    }

    public int move(int parent, int name, int toParent, int toName) {
        if (!mounted) {
            return OFFLINE;
        }
        if (!isName(name) || !isName(toName)) {
            return BAD;
        }
        Folder from = folderOf(parent);
        Folder into = folderOf(toParent);
        Item entry = entryAt(parent, name);
        if (from == null || into == null || entry == null) {
            return MISSING;
        }
        if (entry instanceof Folder && liesWithin(into, entry.id)) {
            return LOOP;
        }
        if (parent == toParent && name == toName) {
            return entry.id;
        }
        if (entryAt(toParent, toName) != null) {
            return EXISTS;
        }
        relocate(entry, toParent, toName);
        from.entries--;
        into.entries++;
        return entry.id;
    }

    public int find(int parent, int name) {
        if (!mounted) {
            return OFFLINE;
        }
        if (!isName(name)) {
            return BAD;
        }
        Item entry = entryAt(parent, name);
        return entry == null ? MISSING : entry.id;
    }

    public int grow(int id, int n) {
        if (!mounted) {
            return OFFLINE;
        }
        if (n < 1 || n > BLOCK_COUNT) {
            return BAD;
        }
        StoredFile file = fileOf(id);
        if (file == null) {
            return MISSING;
        }
        if (map.unusedCount() < n) {
            return NO_SPACE;
        }
        for (int i = 0; i < n; i++) {
            int chosen = map.unusedAfter(file.lastBlock());
            map.setUsed(chosen, true);
            file.append(chosen);
        }
        return file.length;
    }

    public int shrink(int id, int n) {
        if (!mounted) {
            return OFFLINE;
        }
        if (n < 1 || n > BLOCK_COUNT) {
            return BAD;
        }
        StoredFile file = fileOf(id);
        if (file == null) {
            return MISSING;
        }
        if (n > file.length) {
            return BAD;
        }
        cutTo(file, file.length - n);
        return file.length;
    }

    public int size(int id) {
        if (!mounted) {
            return OFFLINE;
        }
        StoredFile file = fileOf(id);
        return file == null ? MISSING : file.length;
    }

    public int block(int id, int i) {
        if (!mounted) {
            return OFFLINE;
        }
        StoredFile file = fileOf(id);
        if (file == null) {
            return MISSING;
        }
        if (i < 0 || i >= file.length) {
            return BAD;
        }
        return file.blocks[i];
    }

    public int extents(int id) {
        if (!mounted) {
            return OFFLINE;
        }
        StoredFile file = fileOf(id);
        return file == null ? MISSING : file.extentCount();
    }

    public int valence(int id) {
        if (!mounted) {
            return OFFLINE;
        }
        Folder folder = folderOf(id);
        return folder == null ? MISSING : folder.entries;
    }

    public int records() {
        return catalog.lines.size();
    }

    public int row(int i, int which) {
        if (i < 0 || i >= catalog.lines.size()) {
            return BAD;
        }
        Line line = catalog.lines.get(i);
        switch (which) {
            case 0:
                return line.keyId();
            case 1:
                return line.keyName();
            case 2:
                return line.kind();
            case 3:
                return line.value();
            case 4:
                return line.more();
            default:
                return BAD;
        }
    }

    public int overflows() {
        int count = 0;
        for (int i = 0; i < items.size(); i++) {
            count += overflowsOf(items.get(i));
        }
        return count;
    }

    public int overflow(int i, int which) {
        if (i < 0) {
            return BAD;
        }
        int left = i;
        for (int k = 0; k < items.size(); k++) {
            Item item = items.get(k);
            int own = overflowsOf(item);
            if (left < own && item instanceof StoredFile file) {
                return overflowField(file, EXTENTS_IN_RECORD + left, which);
            }
            left -= own;
        }
        return BAD;
    }

    public boolean unmount() {
        boolean was = mounted;
        mounted = false;
        return was;
    }

    public boolean harm(int what, int a) {
        if (mounted) {
            return false;
        }
        switch (what) {
            case 0:
                return harmValence(a);
            case 1:
                return map.turnRound(a);
            case 2:
                return harmThread(a);
            case 3:
                return harmLinkCount(a);
            default:
                return false;
        }
    }

    public int check() {
        int sum = 0;
        if (wrongValences(false) > 0) {
            sum += WRONG_VALENCE;
        }
        if (wrongWords(true, false) > 0) {
            sum += LISTED_BUT_NOT_USED;
        }
        if (wrongWords(false, false) > 0) {
            sum += USED_BUT_NOT_LISTED;
        }
        if (missingThreads(false) > 0) {
            sum += NO_THREAD;
        }
        if (wrongLinkCounts(false) > 0) {
            sum += WRONG_LINK_COUNT;
        }
        return sum;
    }

    public boolean mount() {
        if (mounted || check() != 0) {
            return false;
        }
        mounted = true;
        return true;
    }

    public int mend() {
        if (mounted) {
            return NOT_MENDED;
        }
        return wrongValences(true) + wrongWords(true, true) + wrongWords(false, true)
                + missingThreads(true) + wrongLinkCounts(true);
    }

    private static boolean isName(int name) {
        return name >= 0 && name < NAME_COUNT;
    }

    private int takeNextId() {
        int id = nextId;
        nextId++;
        return id;
    }

    private Item itemOf(int id) {
        for (int i = 0; i < items.size(); i++) {
            Item item = items.get(i);
            if (item.id == id) {
                return item;
            }
        }
        return null;
    }

    private Folder folderOf(int id) {
        if (id == ROOT_ID) {
            return root;
        }
        Item item = itemOf(id);
        return item instanceof Folder folder ? folder : null;
    }

    private StoredFile fileOf(int id) {
        return fileBehind(itemOf(id));
    }

    private static StoredFile fileBehind(Item item) {
        if (item instanceof Link link) {
            return link.file;
        }
        return item instanceof StoredFile file ? file : null;
    }

    /** Null also when there is no such folder, as then nothing lies in it. */
    private Item entryAt(int folderId, int name) {
        for (int i = 0; i < items.size(); i++) {
            Item item = items.get(i);
            if (!item.isHidden() && item.folderId == folderId && item.name == name) {
                return item;
            }
        }
        return null;
    }

    private int entryCount() {
        int count = 0;
        for (int i = 0; i < items.size(); i++) {
            if (!items.get(i).isHidden()) {
                count++;
            }
        }
        return count;
    }

    private int entriesIn(int folderId) {
        int count = 0;
        for (int i = 0; i < items.size(); i++) {
            if (items.get(i).folderId == folderId) {
                count++;
            }
        }
        return count;
    }

    private int linksFor(StoredFile file) {
        int count = 0;
        for (int i = 0; i < items.size(); i++) {
            if (items.get(i) instanceof Link link && link.file == file) {
                count++;
            }
        }
        return count;
    }

    /** Whether the folder is the one with that id or lies in it, at any depth. */
    private boolean liesWithin(Folder folder, int id) {
        Folder at = folder;
        for (int depth = 0; depth <= MOST_ENTRIES && at != null; depth++) {
            if (at.id == id) {
                return true;
            }
            at = at.id == ROOT_ID ? null : folderOf(at.folderId);
        }
        return false;
    }

    private void add(Item item) {
        items.add(item);
        catalog.insert(new Line(item, false));
        catalog.insert(new Line(item, true));
    }

    private int addLink(StoredFile file, int folderId, int name) {
        int id = takeNextId();
        add(new Link(id, folderId, name, file));
        file.links++;
        return id;
    }

    private void drop(Item item) {
        catalog.delete(item, false);
        catalog.delete(item, true);
        for (int i = 0; i < items.size(); i++) {
            if (items.get(i) == item) {
                items.remove(i);
                return;
            }
        }
    }

    /** The line is taken out before the place changes, as the place is its key. */
    private void relocate(Item item, int folderId, int name) {
        catalog.delete(item, false);
        item.folderId = folderId;
        item.name = name;
        catalog.insert(new Line(item, false));
    }

    /** Makes a file a hidden one, with a link in its place. */
    private void hide(StoredFile file) {
        int folderId = file.folderId;
        int name = file.name;
        relocate(file, HIDDEN_FOLDER_ID, file.id);
        addLink(file, folderId, name);
    }

    private void unlink(StoredFile file) {
        file.links--;
        if (file.links <= 0) {
            drop(file);
            cutTo(file, 0);
        }
    }

    /** The blocks beyond that length are used no more. */
    private void cutTo(StoredFile file, int length) {
        for (int i = length; i < file.length; i++) {
            map.setUsed(file.blocks[i], false);
        }
        file.length = length;
    }

    private static int overflowsOf(Item item) {
        return item instanceof StoredFile file ? Math.max(0, file.extentCount() - EXTENTS_IN_RECORD) : 0;
    }

    private static int overflowField(StoredFile file, int extent, int which) {
        int place = file.extentPlace(extent);
        if (place >= file.length) {
            return BAD;
        }
        switch (which) {
            case 0:
                return file.id;
            case 1:
                return place;
            case 2:
                return file.blocks[place];
            case 3:
                return file.extentPlace(extent + 1) - place;
            default:
                return BAD;
        }
    }

    private boolean harmValence(int id) {
        Folder folder = folderOf(id);
        if (folder == null) {
            return false;
        }
        folder.entries++;
        return true;
    }

    private boolean harmThread(int id) {
        Item item = itemOf(id);
        return item != null && catalog.delete(item, true);
    }

    private boolean harmLinkCount(int id) {
        if (itemOf(id) instanceof StoredFile file && file.isHidden()) {
            file.links++;
            return true;
        }
        return false;
    }

    /** How many valences are wrong; with repair, they are right afterwards. So for the three below. */
    private int wrongValences(boolean repair) {
        int wrong = wrongValence(root, repair);
        for (int i = 0; i < items.size(); i++) {
            if (items.get(i) instanceof Folder folder) {
                wrong += wrongValence(folder, repair);
            }
        }
        return wrong;
    }

    private int wrongValence(Folder folder, boolean repair) {
        int right = entriesIn(folder.id);
        if (folder.entries == right) {
            return 0;
        }
        if (repair) {
            folder.entries = right;
        }
        return 1;
    }

    /** Of the blocks that are in a list (or of those that are in none), how many the map is wrong about. */
    private int wrongWords(boolean listed, boolean repair) {
        int wrong = 0;
        for (int number = 0; number < BLOCK_COUNT; number++) {
            if (isListed(number) == listed && map.isUsed(number) != listed) {
                wrong++;
                if (repair) {
                    map.setUsed(number, listed);
                }
            }
        }
        return wrong;
    }

    private boolean isListed(int number) {
        for (int i = 0; i < items.size(); i++) {
            if (items.get(i) instanceof StoredFile file && file.has(number)) {
                return true;
            }
        }
        return false;
    }

    private int missingThreads(boolean repair) {
        int missing = 0;
        for (int i = 0; i < items.size(); i++) {
            Item item = items.get(i);
            if (catalog.positionOf(item, true) == NOWHERE) {
                missing++;
                if (repair) {
                    catalog.insert(new Line(item, true));
                }
            }
        }
        return missing;
    }

    private int wrongLinkCounts(boolean repair) {
        int wrong = 0;
        for (int i = 0; i < items.size(); i++) {
            if (items.get(i) instanceof StoredFile file && file.isHidden()) {
                wrong += wrongLinkCount(file, repair);
            }
        }
        return wrong;
    }

    private int wrongLinkCount(StoredFile file, boolean repair) {
        int right = linksFor(file);
        if (file.links == right) {
            return 0;
        }
        if (repair) {
            file.links = right;
        }
        return 1;
    }

    /** An entry or a hidden file (or the root, which is neither and has no lines in the catalog). */
    private abstract static class Item {
        final int id;
        int folderId;
        int name;

        Item(int id, int folderId, int name) {
            this.id = id;
            this.folderId = folderId;
            this.name = name;
        }

        abstract int ownKind();

        abstract int threadKind();

        abstract int ownMore();

        boolean isHidden() {
            return folderId == HIDDEN_FOLDER_ID;
        }
    }

    private static final class Folder extends Item {
        /** The valence that is kept: harm can make it differ from what lies in the folder. */
        int entries;

        Folder(int id, int folderId, int name) {
            super(id, folderId, name);
        }

        int ownKind() {
            return FOLDER_KIND;
        }

        int threadKind() {
            return FOLDER_THREAD_KIND;
        }

        int ownMore() {
            return entries;
        }
    }

    private static final class StoredFile extends Item {
        final int[] blocks;
        int length;
        /** The link count that is kept, of use only while the file is hidden. */
        int links;

        StoredFile(int id, int folderId, int name) {
            super(id, folderId, name);
            blocks = new int[BLOCK_COUNT];
        }

        int ownKind() {
            return FILE_KIND;
        }

        int threadKind() {
            return OTHER_THREAD_KIND;
        }

        int ownMore() {
            return length;
        }

        int lastBlock() {
            return length == 0 ? NOWHERE : blocks[length - 1];
        }

        void append(int number) {
            if (length < BLOCK_COUNT) {
                blocks[length] = number;
                length++;
            }
        }

        boolean has(int number) {
            for (int i = 0; i < length; i++) {
                if (blocks[i] == number) {
                    return true;
                }
            }
            return false;
        }

        int extentCount() {
            int count = 0;
            for (int place = 0; place < length; place++) {
                if (beginsExtent(place)) {
                    count++;
                }
            }
            return count;
        }

        /** Where the extent begins; the length of the list if there are not so many extents. */
        int extentPlace(int extent) {
            int before = 0;
            for (int place = 0; place < length; place++) {
                if (beginsExtent(place)) {
                    if (before == extent) {
                        return place;
                    }
                    before++;
                }
            }
            return length;
        }

        private boolean beginsExtent(int place) {
            return place == 0 || blocks[place] != blocks[place - 1] + 1;
        }
    }

    private static final class Link extends Item {
        final StoredFile file;

        Link(int id, int folderId, int name, StoredFile file) {
            super(id, folderId, name);
            this.file = file;
        }

        int ownKind() {
            return LINK_KIND;
        }

        int threadKind() {
            return OTHER_THREAD_KIND;
        }

        int ownMore() {
            return file.id;
        }
    }

    /** A record of the catalog: the own one of an item, or its thread. */
    private static final class Line {
        final Item item;
        final boolean thread;

        Line(Item item, boolean thread) {
            this.item = item;
            this.thread = thread;
        }

        int keyId() {
            return thread ? item.id : item.folderId;
        }

        int keyName() {
            return thread ? THREAD_NAME : item.name;
        }

        int kind() {
            return thread ? item.threadKind() : item.ownKind();
        }

        int value() {
            return thread ? item.folderId : item.id;
        }

        int more() {
            return thread ? item.name : item.ownMore();
        }

        boolean comesBefore(Line other) {
            if (keyId() != other.keyId()) {
                return keyId() < other.keyId();
            }
            return keyName() < other.keyName();
        }
    }

    /** The records in the order of their keys. */
    private static final class Catalog {
        final ArrayList<Line> lines = new ArrayList<Line>();

        void insert(Line line) {
            int at = 0;
            while (at < lines.size() && lines.get(at).comesBefore(line)) {
                at++;
            }
            lines.add(at, line);
        }

        int positionOf(Item item, boolean thread) {
            for (int i = 0; i < lines.size(); i++) {
                Line line = lines.get(i);
                if (line.item == item && line.thread == thread) {
                    return i;
                }
            }
            return NOWHERE;
        }

        boolean delete(Item item, boolean thread) {
            int at = positionOf(item, thread);
            if (at == NOWHERE) {
                return false;
            }
            lines.remove(at);
            return true;
        }
    }

    /** The map's word on every block. */
    private static final class BlockMap {
        private final boolean[] used = new boolean[BLOCK_COUNT];

        private static boolean isBlock(int number) {
            return number >= 0 && number < BLOCK_COUNT;
        }

        boolean isUsed(int number) {
            return isBlock(number) && used[number];
        }

        void setUsed(int number, boolean word) {
            if (isBlock(number)) {
                used[number] = word;
            }
        }

        boolean turnRound(int number) {
            if (!isBlock(number)) {
                return false;
            }
            used[number] = !used[number];
            return true;
        }

        int unusedCount() {
            int count = 0;
            for (int number = 0; number < BLOCK_COUNT; number++) {
                if (!used[number]) {
                    count++;
                }
            }
            return count;
        }

        /**
         * The block after the last one if it is not used, otherwise the lowest that is not. After
         * NOWHERE comes block 0, which is the lowest if it is not used.
         */
        int unusedAfter(int last) {
            int following = last + 1;
            if (isBlock(following) && !used[following]) {
                return following;
            }
            for (int number = 0; number < BLOCK_COUNT; number++) {
                if (!used[number]) {
                    return number;
                }
            }
            return NOWHERE;
        }
    }
}
