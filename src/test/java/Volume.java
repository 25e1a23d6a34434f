import java.util.List;

/** A CatalogVolume whose calls are written down, and counted: after 512 its answers are free. */
final class Volume {
    private static final int MOST_CALLS = 512;

    private final CatalogVolume object = new CatalogVolume();
    private final List<String> log;
    private int calls;

    Volume(List<String> log) {
        this.log = log;
        log.add("new CatalogVolume()");
    }

    int make(int parent, int name, boolean folder) {
        called("make(" + parent + ", " + name + ", " + folder + ")");
        return object.make(parent, name, folder);
    }

    int link(int parent, int name, int toParent, int toName) {
        called("link(" + parent + ", " + name + ", " + toParent + ", " + toName + ")");
        return object.link(parent, name, toParent, toName);
    }

    int remove(int parent, int name) {
        called("remove(" + parent + ", " + name + ")");
        return object.remove(parent, name);
    }

    int move(int parent, int name, int toParent, int toName) {
        called("move(" + parent + ", " + name + ", " + toParent + ", " + toName + ")");
        return object.move(parent, name, toParent, toName);
    }

    int find(int parent, int name) {
        called("find(" + parent + ", " + name + ")");
        return object.find(parent, name);
    }

    int grow(int id, int n) {
        called("grow(" + id + ", " + n + ")");
        return object.grow(id, n);
    }

    int shrink(int id, int n) {
        called("shrink(" + id + ", " + n + ")");
        return object.shrink(id, n);
    }

    int size(int id) {
        called("size(" + id + ")");
        return object.size(id);
    }

    int block(int id, int i) {
        called("block(" + id + ", " + i + ")");
        return object.block(id, i);
    }

    int extents(int id) {
        called("extents(" + id + ")");
        return object.extents(id);
    }

    int valence(int id) {
        called("valence(" + id + ")");
        return object.valence(id);
    }

    int records() {
        called("records()");
        return object.records();
    }

    int row(int i, int which) {
        called("row(" + i + ", " + which + ")");
        return object.row(i, which);
    }

    int overflows() {
        called("overflows()");
        return object.overflows();
    }

    int overflow(int i, int which) {
        called("overflow(" + i + ", " + which + ")");
        return object.overflow(i, which);
    }

    boolean unmount() {
        called("unmount()");
        return object.unmount();
    }

    boolean harm(int what, int a) {
        called("harm(" + what + ", " + a + ")");
        return object.harm(what, a);
    }

    int check() {
        called("check()");
        return object.check();
    }

    boolean mount() {
        called("mount()");
        return object.mount();
    }

    int mend() {
        called("mend()");
        return object.mend();
    }

    private void called(String call) {
        calls++;
        log.add(call);
        if (calls > MOST_CALLS) {
            throw new IllegalStateException("a case uses one object for more than " + MOST_CALLS + " calls");
        }
    }
}
