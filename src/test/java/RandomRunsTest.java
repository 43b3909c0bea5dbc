import java.util.ArrayList;
import java.util.List;
import java.util.Random;
import java.util.TreeSet;

/**
 * Runs of calls drawn from fixed seeds, each answered by a second, simpler tree too: there files
 * are lists of bytes and directories lists of entries. Then every byte of every block is compared by
 * peek: calls behind the 512th, which the document leaves free and this class answers all the same.
 */
public final class RandomRunsTest {
    private static final int RUNS = 1500;
    private static int wrong = 0;

    public static void main(String[] args) {
        for (int run = 0; run < RUNS && wrong < 20; run++) {
            new Run(run).go();
        }
        System.out.println(wrong == 0 ? RUNS + " runs agree" : wrong + " answers do not agree");
        if (wrong != 0) {
            System.exit(1);
        }
    }

    private static final class Run {
        private final int seed;
        private final Random random;
        private final FileTree tree = new FileTree();
        private final Model model = new Model();
        private final int profile;
        private int calls = 0;

        Run(int seed) {
            this.seed = seed;
            this.random = new Random(seed);
            this.profile = seed % 5;
        }

        void go() {
            if (profile == 1 || profile == 4) {
                fillDisk();
            }
            int before = wrong;
            while (calls < 512 && wrong == before) {
                step();
                if (random.nextInt(100) == 0) {
                    compareDisks();
                }
            }
            compareDisks();
        }

        private void due(String call, int want, int got) {
            calls++;
            if (want != got) {
                wrong++;
                System.out.println("run " + seed + ", call " + calls + ": " + call
                        + " answered " + got + ", the model " + want);
            }
        }

        private void due(String call, boolean want, boolean got) {
            due(call, want ? 1 : 0, got ? 1 : 0);
        }

        private void write(String s) {
            for (int i = 0; i < s.length(); i += 8) {
                long w = 0;
                for (int j = i; j < Math.min(s.length(), i + 8); j++) {
                    w = w << 8 | s.charAt(j);
                }
                due("write " + w, model.write(w), tree.write(w));
            }
        }

        private void save(int inode, int at, int n) {
            due("save " + inode + " " + at + " " + n, model.save(inode, at, n), tree.save(inode, at, n));
        }

        private void create(int from, int kind, String path) {
            write(path);
            int major = random.nextInt();
            int minor = random.nextInt();
            due("create " + from + " " + kind + " " + path,
                    model.create(from, kind, major, minor), tree.create(from, kind, major, minor));
        }

        private void fillDisk() {
            create(1, 2, "/big");
            create(1, 2, "/big2");
            for (int i = 0; i < 90; i++) {
                save(2, model.sizeOf(2), Math.min(3072, 274432 - model.sizeOf(2)));
            }
            int left = random.nextInt(6);
            for (int i = 0; i < 100 && model.free() > left; i++) {
                save(3, model.sizeOf(3), Math.min(3, model.free() - left) * 1024);
            }
        }

        private void step() {
            int c = random.nextInt(profile == 1 ? 26 : 22);
            switch (c) {
                case 0: case 1: case 2: {
                    String p = path();
                    int from = from();
                    write(p);
                    due("find " + from + " " + p, model.find(from), tree.find(from));
                    break;
                }
                case 3: case 4: case 5: case 6: case 7:
                    create(from(), random.nextInt(12) == 0 ? random.nextInt(9) - 3 : 1 + random.nextInt(3), path());
                    break;
                case 8: case 9: case 10: case 11: {
                    if (c > 9 && profile < 2) {
                        break;
                    }
                    String p = path() + (random.nextInt(15) == 0 ? "" : " ") + path();
                    int from = from();
                    write(p);
                    due("link " + from + " " + p, model.link(from), tree.link(from));
                    break;
                }
                case 12: case 13: case 14: {
                    if (profile == 2 && random.nextInt(3) != 0) {
                        break;
                    }
                    String p = path();
                    int from = from();
                    write(p);
                    due("unlink " + from + " " + p, model.unlink(from), tree.unlink(from));
                    break;
                }
                case 15: {
                    int i = inode();
                    due("hold " + i, model.hold(i), tree.hold(i));
                    break;
                }
                case 16: {
                    int i = inode();
                    due("leave " + i, model.leave(i), tree.leave(i));
                    break;
                }
                case 17: {
                    int i = inode();
                    int at = random.nextInt(model.sizeOf(i) + 10) - 3;
                    int n = random.nextInt(3080) - 3;
                    due("read " + i + " " + at + " " + n, model.read(i, at, n), tree.read(i, at, n));
                    int k = random.nextInt(3080) - 4;
                    due("at " + k, model.at(k), tree.at(k));
                    break;
                }
                case 18: {
                    rare();
                    break;
                }
                case 19: {
                    int k = random.nextInt(3080) - 3;
                    int n = random.nextInt(3080) - 3;
                    int b = random.nextInt();
                    due("fill " + k + " " + n, model.fill(k, n, b), tree.fill(k, n, b));
                    break;
                }
                case 20: {
                    int i = inode();
                    int what = random.nextInt(8) - 1;
                    due("about " + i + " " + what, model.about(i, what), tree.about(i, what));
                    due("free", model.free(), tree.free());
                    break;
                }
                default: {
                    int i = inode();
                    int size = model.sizeOf(i);
                    int at = random.nextInt(3) == 0 ? random.nextInt(size + 10) - 3 : size;
                    int n = random.nextInt(4) == 0 ? random.nextInt(4) * 1024 : random.nextInt(3080) - 3;
                    save(i, at, n);
                    break;
                }
            }
        }

        private void rare() {
            int c = random.nextInt(12);
            if (c == 0) {
                due("forget", model.forget(), tree.forget());
            } else if (c < 4) {
                int i = inode();
                due("clear " + i, model.clear(i), tree.clear(i));
            } else if (c < 6) {
                long w = random.nextLong() & random.nextLong();
                due("write " + w, model.write(w), tree.write(w));
            }
        }

        private int inode() {
            int c = random.nextInt(20);
            return c == 0 ? random.nextInt(70) - 3 : 1 + random.nextInt(Math.max(1, Math.min(63, model.highest())));
        }

        private int from() {
            return random.nextInt(3) == 0 ? inode() : 1;
        }

        private String name() {
            int c = random.nextInt(40);
            if (c == 0) {
                return ".";
            } else if (c == 1) {
                return "..";
            } else if (c == 2) {
                return "abcdefghijklm" + "nop".substring(random.nextInt(3));
            } else if (c == 3) {
                return "" + (char) (128 + random.nextInt(128));
            }
            int names = profile == 2 ? 400 : profile == 3 ? 100 : 6;
            return Integer.toString(random.nextInt(names), 36);
        }

        private String path() {
            StringBuilder s = new StringBuilder();
            int names = profile == 2 ? 1 : random.nextInt(10) == 0 ? random.nextInt(7) : 1 + random.nextInt(3);
            if (random.nextInt(3) == 0) {
                s.append('/');
            }
            for (int i = 0; i < names; i++) {
                s.append(name());
                if (i < names - 1 || random.nextInt(12) == 0) {
                    s.append(random.nextInt(12) == 0 ? "//" : "/");
                }
            }
            if (random.nextInt(150) == 0) {
                s.append("/".repeat(random.nextInt(130)));
            }
            if (random.nextInt(100) == 0) {
                s.append(' ');
            }
            return s.toString();
        }

        private void compareDisks() {
            int[][] want = model.disk();
            for (int b = 0; b < 512; b++) {
                for (int k = 0; k < 1024; k++) {
                    if (want[b][k] != tree.peek(b, k)) {
                        wrong++;
                        System.out.println("run " + seed + ", after call " + calls + ": byte " + k + " of block "
                                + b + " is " + tree.peek(b, k) + ", the model's " + want[b][k]);
                        return;
                    }
                }
            }
            for (int i = 0; i < 64; i++) {
                if (model.about(i, 5) != tree.about(i, 5)) {
                    wrong++;
                    System.out.println("run " + seed + ": held " + i);
                }
            }
        }
    }

    private static final class Entry {
        String name = "";
        int inode = 0;
    }

    private static final class Node {
        int kind;
        int major;
        int minor;
        int links = 1;
        int held = 0;
        int numbers = 0;
        byte[] bytes = new byte[0];
        final List<Entry> entries = new ArrayList<>();
        final List<Integer> blocks = new ArrayList<>();

        int size() {
            return kind == 1 ? entries.size() * 16 : bytes.length;
        }
    }

    private static final class Model {
        private final Node[] nodes = new Node[64];
        private final TreeSet<Integer> freeBlocks = new TreeSet<>();
        private final int[][] kept = new int[512][1024];
        private final byte[] buffer = new byte[3072];
        private String text = "";

        Model() {
            for (int b = 38; b < 512; b++) {
                freeBlocks.add(b);
            }
            nodes[1] = new Node();
            nodes[1].kind = 1;
            nodes[1].links = 2;
            add(1, ".", 1);
            add(1, "..", 1);
        }

        int highest() {
            int h = 1;
            for (int i = 1; i < 64; i++) {
                h = nodes[i] != null ? i : h;
            }
            return h + 1;
        }

        private Node node(int i) {
            return i < 0 || i > 63 ? null : nodes[i];
        }

        int sizeOf(int i) {
            return node(i) == null ? 0 : node(i).size();
        }

        boolean write(long w) {
            String more = "";
            for (int i = 7; i >= 0; i--) {
                char c = (char) (w >>> 8 * i & 255);
                more += c == 0 ? "" : "" + c;
            }
            if (text.length() + more.length() > 260) {
                return false;
            }
            text += more;
            return true;
        }

        private String take() {
            String s = text;
            text = "";
            return s;
        }

        private static boolean isPath(String s) {
            return s.length() <= 128 && s.indexOf(' ') < 0;
        }

        private static List<String> names(String path) {
            List<String> names = new ArrayList<>();
            for (String s : path.split("/")) {
                if (!s.isEmpty()) {
                    names.add(s.substring(0, Math.min(14, s.length())));
                }
            }
            return names;
        }

        private Entry entry(int dir, String name) {
            if (nodes[dir].kind == 1) {
                for (Entry e : nodes[dir].entries) {
                    if (e.inode != 0 && e.name.equals(name)) {
                        return e;
                    }
                }
            }
            return null;
        }

        /** Where the path's names lead to, but for some last ones. */
        private int walk(int from, String path, int less) {
            if (!isPath(path) || node(from) == null) {
                return -1;
            }
            int i = path.startsWith("/") ? 1 : from;
            List<String> names = names(path);
            if (names.size() < less) {
                return -1;
            }
            for (String name : names.subList(0, names.size() - less)) {
                Entry e = entry(i, name);
                if (e == null) {
                    return -1;
                }
                i = e.inode;
            }
            return less == 1 && nodes[i].kind != 1 ? -1 : i;
        }

        private static String last(String path) {
            List<String> names = names(path);
            return names.get(names.size() - 1);
        }

        int find(int from) {
            return walk(from, take(), 0);
        }

        private int need(int dir) {
            if (nodes[dir].links == 0) {
                return 10000;
            }
            for (Entry e : nodes[dir].entries) {
                if (e.inode == 0) {
                    return 0;
                }
            }
            int size = nodes[dir].size();
            return size == 274432 ? 10000 : size == 12288 ? 2 : size % 1024 == 0 ? 1 : 0;
        }

        private void add(int dir, String name, int inode) {
            Entry place = null;
            for (Entry e : nodes[dir].entries) {
                place = place == null && e.inode == 0 ? e : place;
            }
            if (place == null) {
                place = new Entry();
                nodes[dir].entries.add(place);
                fit(nodes[dir]);
            }
            place.name = name;
            place.inode = inode;
        }

        /** A node gets the blocks that its size needs. */
        private void fit(Node n) {
            while (n.blocks.size() * 1024 < n.size()) {
                if (n.blocks.size() == 12) {
                    n.numbers = freeBlocks.pollFirst();
                }
                n.blocks.add(freeBlocks.pollFirst());
            }
        }

        private void drop(Node n) {
            putBlocks(kept, n);
            freeBlocks.addAll(n.blocks);
            n.blocks.clear();
            if (n.numbers != 0) {
                freeBlocks.add(n.numbers);
            }
            n.numbers = 0;
        }

        int create(int from, int kind, int major, int minor) {
            String path = take();
            int dir = walk(from, path, 1);
            if (dir < 0 || kind < 1 || kind > 3) {
                return -1;
            }
            Entry there = entry(dir, last(path));
            if (there != null) {
                return kind == 2 && nodes[there.inode].kind != 1 ? there.inode : -1;
            }
            int i = 1;
            while (i < 64 && nodes[i] != null) {
                i++;
            }
            if (i == 64 || need(dir) + (kind == 1 ? 1 : 0) > freeBlocks.size()) {
                return -1;
            }
            nodes[i] = new Node();
            nodes[i].kind = kind;
            nodes[i].major = major & 65535;
            nodes[i].minor = minor & 65535;
            if (kind == 1) {
                add(i, ".", i);
                add(i, "..", dir);
                nodes[dir].links++;
            }
            add(dir, last(path), i);
            return i;
        }

        int link(int from) {
            String s = take();
            int blank = s.indexOf(' ');
            if (blank < 0) {
                return -1;
            }
            int i = walk(from, s.substring(0, blank), 0);
            String path = s.substring(blank + 1);
            int dir = walk(from, path, 1);
            if (i < 0 || dir < 0 || nodes[i].kind == 1 || entry(dir, last(path)) != null
                    || need(dir) > freeBlocks.size()) {
                return -1;
            }
            add(dir, last(path), i);
            nodes[i].links++;
            return i;
        }

        int unlink(int from) {
            String path = take();
            int dir = walk(from, path, 1);
            if (dir < 0 || last(path).equals(".") || last(path).equals("..")) {
                return -1;
            }
            Entry e = entry(dir, last(path));
            if (e == null) {
                return -1;
            }
            int i = e.inode;
            Node n = nodes[i];
            if (n.kind == 1) {
                if (n.entries.stream().filter(x -> x.inode != 0).count() > 2) {
                    return -1;
                }
                n.entries.replaceAll(x -> new Entry());
                nodes[dir].links--;
            }
            e.inode = 0;
            e.name = "";
            n.links--;
            gone(i);
            return i;
        }

        private boolean gone(int i) {
            Node n = nodes[i];
            if (n == null || n.links > 0 || n.held > 0) {
                return false;
            }
            drop(n);
            nodes[i] = null;
            return true;
        }

        boolean hold(int i) {
            if (node(i) == null) {
                return false;
            }
            nodes[i].held++;
            return true;
        }

        boolean leave(int i) {
            if (node(i) == null || nodes[i].held == 0) {
                return false;
            }
            nodes[i].held--;
            gone(i);
            return true;
        }

        private byte[] bytesOf(Node n) {
            if (n.kind != 1) {
                return n.bytes;
            }
            byte[] all = new byte[n.size()];
            for (int i = 0; i < n.entries.size(); i++) {
                Entry e = n.entries.get(i);
                all[16 * i] = (byte) e.inode;
                for (int j = 0; j < e.name.length(); j++) {
                    all[16 * i + 2 + j] = (byte) e.name.charAt(j);
                }
            }
            return all;
        }

        int read(int i, int at, int n) {
            if (node(i) == null || nodes[i].kind == 3 || at < 0 || n < 0 || n > 3072) {
                return -1;
            }
            byte[] all = bytesOf(nodes[i]);
            int count = 0;
            for (int k = at; k < all.length && count < n; k++) {
                buffer[count++] = all[k];
            }
            return count;
        }

        int save(int i, int at, int n) {
            if (node(i) == null || nodes[i].kind != 2 || at < 0 || at > nodes[i].size() || n < 0 || n > 3072
                    || at + n > 274432) {
                return -1;
            }
            Node f = nodes[i];
            int left = freeBlocks.size();
            int blocks = f.blocks.size();
            while (blocks * 1024 < at + n && left >= (blocks == 12 ? 2 : 1)) {
                left -= blocks == 12 ? 2 : 1;
                blocks++;
            }
            int end = Math.min(at + n, blocks * 1024);
            f.bytes = java.util.Arrays.copyOf(f.bytes, Math.max(f.bytes.length, end));
            System.arraycopy(buffer, 0, f.bytes, at, end - at);
            fit(f);
            return end - at;
        }

        boolean clear(int i) {
            if (node(i) == null || nodes[i].kind != 2) {
                return false;
            }
            drop(nodes[i]);
            nodes[i].bytes = new byte[0];
            return true;
        }

        int about(int i, int what) {
            if (i < 0 || i > 63 || what < 0 || what > 5) {
                return -1;
            }
            Node n = nodes[i];
            return n == null ? 0 : new int[] {n.kind, n.major, n.minor, n.links, n.size(), n.held}[what];
        }

        int free() {
            return freeBlocks.size();
        }

        int forget() {
            int count = 0;
            for (int i = 0; i < 64; i++) {
                if (nodes[i] != null) {
                    nodes[i].held = 0;
                    count += gone(i) ? 1 : 0;
                }
            }
            return count;
        }

        boolean fill(int k, int n, int b) {
            if (k < 0 || k > 3072 || n < 0 || k + n > 3072) {
                return false;
            }
            for (int i = 0; i < n; i++) {
                buffer[k + i] = (byte) (b + i);
            }
            return true;
        }

        int at(int k) {
            return k < 0 || k > 3071 ? -1 : buffer[k] & 255;
        }

        /** The blocks as they must be; free ones keep what they had. */
        int[][] disk() {
            int[][] d = new int[512][];
            for (int b = 0; b < 512; b++) {
                d[b] = b < 38 ? new int[1024] : kept[b];
            }
            int[] superblock = {270544960, 512, 474, 64, 31, 2, 33, 37};
            for (int i = 0; i < 8; i++) {
                put(d[1], 4 * i, superblock[i], 4);
            }
            for (int b = 0; b < 512; b++) {
                d[37][b / 8] |= freeBlocks.contains(b) ? 0 : 1 << b % 8;
            }
            for (int i = 0; i < 64; i++) {
                if (nodes[i] != null) {
                    putNode(d, i, nodes[i]);
                }
            }
            return d;
        }

        private void putNode(int[][] d, int i, Node n) {
            int[] row = d[33 + i / 16];
            int at = i % 16 * 64;
            put(row, at, n.kind, 2);
            put(row, at + 2, n.major, 2);
            put(row, at + 4, n.minor, 2);
            put(row, at + 6, n.links, 2);
            put(row, at + 8, n.size(), 4);
            put(row, at + 60, n.numbers, 4);
            for (int k = 0; k < Math.min(12, n.blocks.size()); k++) {
                put(row, at + 12 + 4 * k, n.blocks.get(k), 4);
            }
            putBlocks(d, n);
        }

        private void putBlocks(int[][] d, Node n) {
            if (n.numbers != 0) {
                d[n.numbers] = new int[1024];
            }
            byte[] all = bytesOf(n);
            for (int k = 0; k < n.blocks.size(); k++) {
                int b = n.blocks.get(k);
                if (k >= 12) {
                    put(d[n.numbers], 4 * (k - 12), b, 4);
                }
                d[b] = new int[1024];
                for (int j = 0; j < 1024 && k * 1024 + j < all.length; j++) {
                    d[b][j] = all[k * 1024 + j] & 255;
                }
            }
        }

        private static void put(int[] row, int at, int number, int bytes) {
            for (int i = 0; i < bytes; i++) {
                row[at + i] = number >>> 8 * i & 255;
            }
        }
    }
}
