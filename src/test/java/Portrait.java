import java.util.ArrayList;
import java.util.List;

/**
 * All that calls can tell of a volume, as a list of answers: two volumes with the same portrait are
 * in the same state. Taking it uses the volume up.
 */
final class Portrait {
    private static final int ROOT = 2;
    private static final int HIDDEN_FOLDER = 3;

    private final Volume volume;
    private final List<String> answers = new ArrayList<>();
    private final List<Integer> folders = new ArrayList<>();
    private final List<Integer> files = new ArrayList<>();
    /** Where a file or link lies that can be taken away to make room. */
    private int roomFolder = -1;
    private int roomName = -1;

    private Portrait(Volume volume) {
        this.volume = volume;
    }

    static List<String> of(Volume volume) {
        Portrait portrait = new Portrait(volume);
        portrait.catalog();
        portrait.overflow();
        portrait.fitting();
        portrait.kept();
        portrait.nextIdAndUnusedBlocks();
        return portrait.answers;
    }

    private int tell(String what, int answer) {
        answers.add(what + " " + answer);
        return answer;
    }

    private boolean tell(String what, boolean answer) {
        answers.add(what + " " + answer);
        return answer;
    }

    private void catalog() {
        folders.add(ROOT);
        int records = tell("records", volume.records());
        for (int i = 0; i < records; i++) {
            int keyId = tell("key id", volume.row(i, 0));
            int keyName = tell("key name", volume.row(i, 1));
            int kind = tell("kind", volume.row(i, 2));
            int value = tell("value", volume.row(i, 3));
            tell("more", volume.row(i, 4));
            if (kind == 1) {
                folders.add(value);
            } else if (kind == 2 || kind == 3) {
                files.add(value);
                if (keyId != HIDDEN_FOLDER) {
                    roomFolder = keyId;
                    roomName = keyName;
                }
            }
        }
    }

    private void overflow() {
        int overflows = tell("overflows", volume.overflows());
        for (int i = 0; i < overflows; i++) {
            for (int which = 0; which < 4; which++) {
                tell("overflow " + i, volume.overflow(i, which));
            }
        }
    }

    /** Whether it is mounted, and what does not fit; it is mounted afterwards. */
    private void fitting() {
        tell("check", volume.check());
        tell("was mounted", volume.unmount());
        tell("mended", volume.mend());
        tell("mounts", volume.mount());
    }

    private void kept() {
        for (int folder : folders) {
            tell("valence of " + folder, volume.valence(folder));
        }
        for (int file : files) {
            int size = tell("size of " + file, volume.size(file));
            tell("extents of " + file, volume.extents(file));
            for (int i = 0; i < size; i++) {
                tell("block of " + file, volume.block(file, i));
            }
        }
    }

    private void nextIdAndUnusedBlocks() {
        if (roomName >= 0) {
            tell("room", volume.remove(roomFolder, roomName));
        }
        int probe = -1;
        for (int name = 99; name > 0 && probe < 0; name--) {
            probe = tell("next id", volume.make(ROOT, name, false));
        }
        int got = -1;
        for (int n = 48; n > 0 && got < 0; n--) {
            got = tell("unused " + n, volume.grow(probe, n));
        }
        for (int i = 0; i < got; i++) {
            tell("unused block", volume.block(probe, i));
        }
    }
}
