/**
 * A FileTree for tests: texts come as Strings, blocks can be looked at as numbers and entries, and
 * the calls are counted, since the document promises nothing behind the 512th.
 */
final class Tree {
    static final int PROMISED_CALLS = 512;
    static final int ANY_NUMBER = Integer.MAX_VALUE;

    private final FileTree tree = new FileTree();
    private final int mostCalls;
    private int calls = 0;

    Tree() {
        this(PROMISED_CALLS);
    }

    Tree(int mostCalls) {
        this.mostCalls = mostCalls;
    }

    int callsLeft() {
        return mostCalls - calls;
    }

    private FileTree counted() {
        if (calls == mostCalls) {
            throw new IllegalStateException("a test uses an object for more than " + mostCalls + " calls");
        }
        calls++;
        return tree;
    }

    boolean write(long w) {
        return counted().write(w);
    }

    int find(int from) {
        return counted().find(from);
    }

    int create(int from, int kind, int major, int minor) {
        return counted().create(from, kind, major, minor);
    }

    int link(int from) {
        return counted().link(from);
    }

    int unlink(int from) {
        return counted().unlink(from);
    }

    boolean hold(int inode) {
        return counted().hold(inode);
    }

    boolean leave(int inode) {
        return counted().leave(inode);
    }

    int read(int inode, int at, int n) {
        return counted().read(inode, at, n);
    }

    int save(int inode, int at, int n) {
        return counted().save(inode, at, n);
    }

    boolean clear(int inode) {
        return counted().clear(inode);
    }

    int about(int inode, int what) {
        return counted().about(inode, what);
    }

    int free() {
        return counted().free();
    }

    int forget() {
        return counted().forget();
    }

    boolean fill(int k, int n, int b) {
        return counted().fill(k, n, b);
    }

    int at(int k) {
        return counted().at(k);
    }

    int peek(int b, int k) {
        return counted().peek(b, k);
    }

    /** The whole text by as few calls as it takes. */
    void text(String s) {
        for (int i = 0; i < s.length(); i += 8) {
            long w = 0;
            for (int j = i; j < Math.min(s.length(), i + 8); j++) {
                w = w << 8 | s.charAt(j);
            }
            if (!write(w)) {
                throw new IllegalStateException("no room for the text " + s);
            }
        }
    }

    int find(int from, String path) {
        text(path);
        return find(from);
    }

    int create(String path, int kind) {
        return create(1, path, kind);
    }

    int create(int from, String path, int kind) {
        text(path);
        return create(from, kind, 0, 0);
    }

    int link(int from, String paths) {
        text(paths);
        return link(from);
    }

    int unlink(int from, String path) {
        text(path);
        return unlink(from);
    }

    /** Bytes of the buffer, from its beginning in each call, come behind a file's size: how many. */
    int grow(int inode, int size, int n) {
        int came = 0;
        while (came < n) {
            int part = Math.min(3072, n - came);
            int now = save(inode, size + came, part);
            came += Math.max(now, 0);
            if (now != part) {
                break;
            }
        }
        return came;
    }

    int half(int b, int k) {
        return peek(b, k) | peek(b, k + 1) << 8;
    }

    int number(int b, int k) {
        return half(b, k) | half(b, k + 2) << 16;
    }

    /** Number k of the 13 that an inode has on its block. */
    int inodeNumber(int inode, int k) {
        return number(33 + inode / 16, inode % 16 * 64 + 12 + 4 * k);
    }

    /** An entry on its block: the inode's number, a blank and the name, with _ for each byte 0. */
    String entry(int b, int k) {
        StringBuilder s = new StringBuilder().append(half(b, k)).append(' ');
        for (int i = 2; i < 16; i++) {
            int c = peek(b, k + i);
            s.append(c == 0 ? '_' : (char) c);
        }
        return s.toString();
    }
}
