/** The promises one by one: ordinary calls, the edges that the document names, wrong arguments. */
public final class PromisesTest {
    private static final int DIRECTORY = 1;
    private static final int FILE = 2;
    private static final int DEVICE = 3;
    private static int wrong = 0;

    public static void main(String[] args) {
        newObject();
        write();
        find();
        findNamesOf14();
        findLengths();
        create();
        createWithoutInodes();
        createWithoutBlocks();
        createGrowsDirectory();
        link();
        linkText();
        linkNeedsBlock();
        linkHeldFile();
        directoryBeyond12Blocks();
        unlink();
        unlinkDirectory();
        unlinkHeldDirectory();
        holdAndLeave();
        read();
        save();
        saveOverOldBytes();
        saveLimits();
        saveUntilFull();
        saveWithOneBlockForTwo();
        clear();
        about();
        free();
        forget();
        fill();
        at();
        peek();
        wrongFrom();
        System.out.println(wrong == 0 ? "all promises are kept" : wrong + " answers are not as due");
        if (wrong != 0) {
            System.exit(1);
        }
    }

    private static void due(String what, long want, long got) {
        if (want != got) {
            wrong++;
            System.out.println(what + ": answered " + got + ", due is " + want);
        }
    }

    private static void due(String what, boolean want, boolean got) {
        due(what, want ? 1 : 0, got ? 1 : 0);
    }

    private static void dueEntry(Tree t, int b, int k, String want) {
        String got = t.entry(b, k);
        if (!got.equals(want)) {
            wrong++;
            System.out.println("entry at " + b + ", " + k + " is " + got + ", due is " + want);
        }
    }

    /** Two files take blocks until just some are left (a number that two files can leave). */
    private static void leaveFree(Tree t, int left) {
        int first = t.create("/full1", FILE);
        t.grow(first, 0, 268 * 1024);
        int second = t.create("/full2", FILE);
        for (int i = 0; i < 500 && t.free() > left; i++) {
            t.grow(second, i * 1024, 1024);
        }
        due("blocks left", left, t.free());
    }

    private static void newObject() {
        Tree t = new Tree(Tree.ANY_NUMBER);
        int[] superblock = {270544960, 512, 474, 64, 31, 2, 33, 37};
        for (int i = 0; i < superblock.length; i++) {
            due("superblock " + i, superblock[i], t.number(1, 4 * i));
        }
        int sum = 0;
        for (int b = 0; b < 512; b++) {
            for (int k = 0; k < 1024; k++) {
                boolean known = b == 1 && k < 32 || b == 33 && k >= 64 && k < 128
                        || b == 37 && k < 5 || b == 38 && k < 32;
                sum += known ? 0 : t.peek(b, k);
            }
        }
        due("all else is 0", 0, sum);
        for (int b = 0; b < 512; b++) {
            due("used " + b, b <= 38 ? 1 : 0, t.peek(37, b / 8) >> b % 8 & 1);
        }
        due("free", 473, t.free());
        int[] root = {1, 0, 0, 2, 32, 0};
        for (int what = 0; what < 6; what++) {
            due("root " + what, root[what], t.about(1, what));
        }
        due("root's block", 38, t.inodeNumber(1, 0));
        due("root's next block", 0, t.inodeNumber(1, 1));
        due("root's kind on its block", 1, t.half(33, 64));
        due("root's links on its block", 2, t.half(33, 70));
        due("root's size on its block", 32, t.number(33, 72));
        dueEntry(t, 38, 0, "1 ._____________");
        dueEntry(t, 38, 16, "1 ..____________");
        for (int k = 0; k < 3072; k++) {
            due("buffer", 0, t.at(k));
        }
        due("no text", 1, t.find(1));
        due("NONE", -1, FileTree.NONE);
    }

    private static void write() {
        Tree t = new Tree(Tree.ANY_NUMBER);
        due("bytes from the highest on", true, t.write(0x2F61626364656667L));
        due("create", 2, t.create(1, FILE, 0, 0));
        dueEntry(t, 38, 32, "2 abcdefg_______");
        due("bytes 0 are left out", true, t.write(0x6100006200630000L));
        due("nothing to append", true, t.write(0));
        due("highest bit", true, t.write(0xFF00000000000080L));
        due("create", 3, t.create(1, FILE, 0, 0));
        dueEntry(t, 38, 48, "3 abc\u00FF\u0080_________");
        for (int i = 0; i < 32; i++) {
            due("write", true, t.write(0x2F2F2F2F2F2F2F2FL));
        }
        due("5 of 4 left", false, t.write(0x6161616161L));
        due("4 of 4 left", true, t.write(0x61616161L));
        due("1 of 0 left", false, t.write(0x61L));
        due("0 of 0 left", true, t.write(0L));
        due("too long", -1, t.find(1));
        due("empty again", 1, t.find(1));
        for (int i = 0; i < 259; i++) {
            due("write", true, t.write(0x61L));
        }
        due("2 of 1 left", false, t.write(0x2F0000000000002FL));
        due("1 of 1 left", true, t.write(0x2F00000000000000L));
        due("1 of 0 left", false, t.write(0x2FL));
    }

    private static void find() {
        Tree t = new Tree(Tree.ANY_NUMBER);
        due("create", 2, t.create("/a", DIRECTORY));
        due("create", 3, t.create("/a/b", DIRECTORY));
        due("create", 4, t.create("/a/b/f", FILE));
        due("create", 5, t.create("/a/b/d", DEVICE));
        due("absolute", 4, t.find(3, "/a/b/f"));
        due("relative", 4, t.find(2, "b/f"));
        due("not from there", -1, t.find(3, "b/f"));
        due("many slashes", 4, t.find(1, "//a///b////f//"));
        due("dots", 4, t.find(3, "../../a/./b/../b/f"));
        due("above the root", 1, t.find(1, "../../.."));
        due("absolute above the root", 2, t.find(1, "/../a"));
        due("no names", 1, t.find(3, "/"));
        due("no names", 1, t.find(3, "////"));
        due("empty", 3, t.find(3, ""));
        due("empty from a file", 4, t.find(4, ""));
        due("empty from a device", 5, t.find(5, ""));
        due("on from a file", -1, t.find(4, "."));
        due("on from a device", -1, t.find(1, "/a/b/d/."));
        due("a slash behind a file", 4, t.find(1, "/a/b/f/"));
        due("absolute from a file", 3, t.find(4, "/a/b"));
        due("nowhere", -1, t.find(1, "/x"));
        due("nowhere on the way", -1, t.find(1, "/x/../a"));
        due("other case", -1, t.find(1, "/A"));
        due("beginning of a name", -1, t.find(1, "/a/bb"));
        due("a blank", -1, t.find(1, "/a "));
        due("a blank", -1, t.find(1, " /a"));
        due("only a blank", -1, t.find(1, " "));
        due("empty behind a failure", 1, t.find(1));
    }

    private static void findNamesOf14() {
        Tree t = new Tree(Tree.ANY_NUMBER);
        due("13", 2, t.create("abcdefghijklm", FILE));
        due("14", 3, t.create("abcdefghijklmn", FILE));
        due("15 is the same", 3, t.create("abcdefghijklmnX", FILE));
        due("find 13", 2, t.find(1, "abcdefghijklm"));
        due("find 20", 3, t.find(1, "/abcdefghijklmnopqrst"));
        due("find 12", -1, t.find(1, "abcdefghijkl"));
        due("other 14", -1, t.find(1, "abcdefghijklmo"));
        dueEntry(t, 38, 48, "3 abcdefghijklmn");
        due("14 dots are a name", 4, t.create("................", DIRECTORY));
        due("below it", 5, t.create("................/x", FILE));
        due("three dots", 6, t.create("...", FILE));
        due("free by 16 dots", 5, t.unlink(1, "................../x"));
    }

    private static void findLengths() {
        Tree t = new Tree(Tree.ANY_NUMBER);
        due("create", 2, t.create("a", FILE));
        String slashes = "/".repeat(126);
        due("127", 2, t.find(1, slashes + "a"));
        due("128", 2, t.find(1, slashes + "/a"));
        due("129", -1, t.find(1, slashes + "//a"));
        due("create 129", -1, t.create(slashes + "//b", FILE));
        due("create 128", 3, t.create(slashes + "/b", FILE));
        due("unlink 129", -1, t.unlink(1, slashes + "//b"));
        due("link 128 128", 2, t.link(1, slashes + "/a " + slashes + "/c"));
        due("link 129 128", -1, t.link(1, slashes + "//a " + slashes + "/d"));
        due("link 128 129", -1, t.link(1, slashes + "/a " + slashes + "//d"));
        due("unlink 128", 3, t.unlink(1, slashes + "/b"));
        due("a name of 128 bytes", 3, t.create("n".repeat(128), FILE));
        due("a name of 129 bytes", -1, t.find(1, "n".repeat(129)));
    }

    private static void create() {
        Tree t = new Tree(Tree.ANY_NUMBER);
        t.text("d");
        due("directory", 2, t.create(1, DIRECTORY, 3, 4));
        int[] d = {1, 3, 4, 1, 32, 0};
        for (int what = 0; what < 6; what++) {
            due("directory " + what, d[what], t.about(2, what));
        }
        due("root's links", 3, t.about(1, 3));
        due("root's size", 48, t.about(1, 4));
        due("its block", 39, t.inodeNumber(2, 0));
        dueEntry(t, 38, 32, "2 d_____________");
        dueEntry(t, 39, 0, "2 ._____________");
        dueEntry(t, 39, 16, "1 ..____________");
        t.text("d/f/");
        due("file", 3, t.create(1, FILE, 70000, -2));
        int[] f = {2, 4464, 65534, 1, 0, 0};
        for (int what = 0; what < 6; what++) {
            due("file " + what, f[what], t.about(3, what));
        }
        due("major on its block", 4464, t.half(33, 194));
        due("minor on its block", 65534, t.half(33, 196));
        t.text("v");
        due("device from a directory", 4, t.create(2, DEVICE, 1, 2));
        due("stands there", 4, t.find(1, "d/v"));
        due("file that is there", 3, t.create("d/f", FILE));
        due("device that is there", 4, t.create("d/v", FILE));
        due("unchanged", 3, t.about(4, 0));
        due("directory that is there", -1, t.create("d", FILE));
        due("directory over a directory", -1, t.create("d", DIRECTORY));
        due("device over a device", -1, t.create("d/v", DEVICE));
        due("directory over a file", -1, t.create("d/f", DIRECTORY));
        due("its own dot", -1, t.create("d/.", FILE));
        due("its own dots", -1, t.create("..", FILE));
        due("kind 0", -1, t.create("k", 0));
        due("kind 4", -1, t.create("k", 4));
        due("kind -1", -1, t.create("k", -1));
        due("kind 65537", -1, t.create("k", 65537));
        due("kind 4 of one that is there", -1, t.create("d/f", 4));
        due("no name", -1, t.create("", FILE));
        due("no name", -1, t.create("//", DIRECTORY));
        due("no directory", -1, t.create("x/k", FILE));
        due("under a file", -1, t.create("d/f/k", FILE));
        due("under a device", -1, t.create("d/v/k", FILE));
        due("a blank", -1, t.create("a b", FILE));
        due("text is empty", 1, t.find(1));
        due("nothing came", 0, t.about(5, 0));
        due("nothing was taken", 472, t.free());
        due("least number", 3, t.unlink(1, "d/f"));
        due("is taken again", 3, t.create("k", FILE));
    }

    private static void createWithoutInodes() {
        Tree t = new Tree(Tree.ANY_NUMBER);
        for (int i = 2; i < 64; i++) {
            due("inode", i, t.create("/f" + i, FILE));
        }
        int free = t.free();
        due("no inode", -1, t.create("more", FILE));
        due("no inode", -1, t.create("more", DIRECTORY));
        due("no entry came", -1, t.find(1, "more"));
        due("no block was taken", free, t.free());
        due("one that is there", 9, t.create("f9", FILE));
        due("a link needs none", 9, t.link(1, "f9 l9"));
        due("unlink", 33, t.unlink(1, "f33"));
        due("the free one", 33, t.create("more", DIRECTORY));
    }

    private static void createWithoutBlocks() {
        Tree t = new Tree(Tree.ANY_NUMBER);
        leaveFree(t, 0);
        due("a file needs none", 4, t.create("f", FILE));
        due("a directory does", -1, t.create("d", DIRECTORY));
        due("no inode was taken", 0, t.about(5, 0));
        due("no entry came", -1, t.find(1, "d"));
        due("links", 2, t.about(1, 3));
        due("clear", true, t.clear(3));
        due("directory", 5, t.create("d", DIRECTORY));
    }

    /** The root's 65th entry needs a block; one for a directory of its own comes before that. */
    private static void createGrowsDirectory() {
        Tree t = new Tree(Tree.ANY_NUMBER);
        leaveFree(t, 2);
        due("create", 4, t.create("f", FILE));
        for (int i = 5; i < 64; i++) {
            due("link", 4, t.link(1, "f l" + i));
        }
        due("full block", 64 * 16, t.about(1, 4));
        due("two blocks", 2, t.free());
        due("directory", 5, t.create("d", DIRECTORY));
        due("its block first", 1, t.inodeNumber(5, 0) < t.inodeNumber(1, 1) ? 1 : 0);
        due("no block", 0, t.free());
        due("the new size", 65 * 16, t.about(1, 4));
        dueEntry(t, t.inodeNumber(1, 1), 0, "5 d_____________");
        due("unlink", 4, t.unlink(1, "l7"));
        due("the first free entry", 6, t.create("g", FILE));
        due("same size", 65 * 16, t.about(1, 4));
        dueEntry(t, 38, 7 * 16, "6 g_____________");

        t = new Tree(Tree.ANY_NUMBER);
        leaveFree(t, 1);
        due("create", 4, t.create("f", FILE));
        for (int i = 5; i < 64; i++) {
            due("link", 4, t.link(1, "f l" + i));
        }
        due("a directory needs two", -1, t.create("d", DIRECTORY));
        due("none was taken", 1, t.free());
        due("links", 2, t.about(1, 3));
        due("no inode", 0, t.about(5, 0));
        due("a file needs one", 5, t.create("g", FILE));
        due("it was taken", 0, t.free());
    }

    private static void link() {
        Tree t = new Tree(Tree.ANY_NUMBER);
        due("create", 2, t.create("d", DIRECTORY));
        due("create", 3, t.create("d/f", FILE));
        due("create", 4, t.create("v", DEVICE));
        due("link", 3, t.link(1, "d/f /d/g"));
        due("links", 2, t.about(3, 3));
        due("from a directory", 3, t.link(2, "f ../h"));
        due("links", 3, t.about(3, 3));
        due("it leads there", 3, t.find(1, "h"));
        due("device", 4, t.link(1, "v w"));
        due("slashes behind", 4, t.link(1, "v/ x//"));
        due("links", 3, t.about(4, 3));
        due("nowhere", -1, t.link(1, "n m"));
        due("directory", -1, t.link(1, "d m"));
        due("no last name", -1, t.link(1, "v /"));
        due("no last name", -1, t.link(1, "v "));
        due("no directory", -1, t.link(1, "v n/m"));
        due("under a file", -1, t.link(1, "v h/m"));
        due("name is there", -1, t.link(1, "v h"));
        due("name is there", -1, t.link(1, "v v"));
        due("name is there", -1, t.link(1, "v d/."));
        due("name is there", -1, t.link(1, "v .."));
        due("same links", 3, t.about(4, 3));
        due("text is empty", 1, t.find(1));
        due("unlink the first", 3, t.unlink(1, "d/f"));
        due("it stays", 2, t.about(3, 0));
        due("unlink", 3, t.unlink(1, "d/g"));
        due("unlink", 3, t.unlink(1, "h"));
        due("it is gone", 0, t.about(3, 0));
    }

    private static void linkText() {
        Tree t = new Tree(Tree.ANY_NUMBER);
        due("create", 2, t.create("f", FILE));
        due("one path", -1, t.link(1, "f"));
        due("none", -1, t.link(1, ""));
        due("a blank", -1, t.link(1, " "));
        due("two blanks", -1, t.link(1, "f  g"));
        due("three paths", -1, t.link(1, "f g h"));
        due("a blank behind", -1, t.link(1, "f g "));
        due("a blank before leads to a directory", -1, t.link(1, " g"));
        due("empty path that leads to a file", 2, t.link(2, " /g"));
        due("links", 2, t.about(2, 3));
        due("relative to a file", -1, t.link(2, " h"));
    }

    private static void linkNeedsBlock() {
        Tree t = new Tree(Tree.ANY_NUMBER);
        leaveFree(t, 0);
        due("create", 4, t.create("f", FILE));
        for (int i = 5; i < 64; i++) {
            due("link", 4, t.link(1, "f l" + i));
        }
        due("no block", -1, t.link(1, "f more"));
        due("links", 60, t.about(4, 3));
        due("size", 1024, t.about(1, 4));
        due("no block for a file", -1, t.create("more", FILE));
        due("unlink", 4, t.unlink(1, "l9"));
        due("a free entry", 4, t.link(1, "f more"));
        due("size", 1024, t.about(1, 4));
    }

    private static void linkHeldFile() {
        Tree t = new Tree(Tree.ANY_NUMBER);
        due("create", 2, t.create("f", FILE));
        due("hold", true, t.hold(2));
        due("unlink", 2, t.unlink(1, "f"));
        due("no links", 0, t.about(2, 3));
        due("linked again", 2, t.link(2, " /g"));
        due("links", 1, t.about(2, 3));
        due("leave", true, t.leave(2));
        due("it stays", 2, t.about(2, 0));
    }

    /** More calls than the document promises anything for, but the place must be sound. */
    private static void directoryBeyond12Blocks() {
        Tree t = new Tree(Tree.ANY_NUMBER);
        due("create", 2, t.create("d", DIRECTORY));
        due("create", 3, t.create("d/f", FILE));
        for (int i = 3; i < 768; i++) {
            due("link", 3, t.link(2, "f l" + i));
        }
        due("12 blocks", 12288, t.about(2, 4));
        due("free", 461, t.free());
        due("link", 3, t.link(2, "f more"));
        due("two blocks", 459, t.free());
        due("the block of numbers first", t.inodeNumber(2, 12) + 1, t.number(t.inodeNumber(2, 12), 0));
        due("found", 3, t.find(1, "d/more"));
        for (int i = 769; i < 274432 / 16; i++) {
            due("link", 3, t.link(2, "f m" + i));
        }
        due("all that it can have", 274432, t.about(2, 4));
        due("no link more", -1, t.link(2, "f again"));
        due("no file more", -1, t.create("d/again", FILE));
        due("no directory more", -1, t.create("d/again", DIRECTORY));
        due("blocks", 473 - 269, t.free());
        due("unlink", 3, t.unlink(1, "d/m9999"));
        due("a free entry", 3, t.link(2, "f again"));
    }

    private static void unlink() {
        Tree t = new Tree(Tree.ANY_NUMBER);
        due("create", 2, t.create("a", FILE));
        due("create", 3, t.create("b", FILE));
        due("create", 4, t.create("v", DEVICE));
        due("fill", true, t.fill(0, 3072, 1));
        due("save", 2000, t.save(2, 0, 2000));
        due("free", 471, t.free());
        due("unlink", 2, t.unlink(1, "/a//"));
        due("blocks are free", 473, t.free());
        for (int what = 0; what < 6; what++) {
            due("free inode " + what, 0, t.about(2, what));
        }
        for (int k = 0; k < 64; k++) {
            due("free inode's bytes", 0, t.peek(33, 128 + k));
        }
        dueEntry(t, 38, 32, "0 ______________");
        due("size stays", 80, t.about(1, 4));
        due("block keeps its bytes", 1, t.peek(39, 0));
        due("not there any more", -1, t.unlink(1, "a"));
        due("the first free entry", 2, t.create("c", FILE));
        dueEntry(t, 38, 32, "2 c_____________");
        due("block comes with bytes 0", 1, t.save(2, 0, 1));
        due("its block", 39, t.inodeNumber(2, 0));
        due("byte 1", 0, t.peek(39, 1));
        due("device", 4, t.unlink(1, "v"));
        due("no name", -1, t.unlink(1, "/"));
        due("no name", -1, t.unlink(1, ""));
        due("no directory", -1, t.unlink(1, "x/b"));
        due("under a file", -1, t.unlink(1, "b/b"));
        due("dot", -1, t.unlink(1, "/."));
        due("dots", -1, t.unlink(1, "/.."));
        due("a blank", -1, t.unlink(1, "b "));
        due("text is empty", 1, t.find(1));
        due("from a file", -1, t.unlink(3, "b"));
        due("absolute from a file", 3, t.unlink(3, "/b"));
    }

    private static void unlinkDirectory() {
        Tree t = new Tree(Tree.ANY_NUMBER);
        due("create", 2, t.create("d", DIRECTORY));
        due("create", 3, t.create("d/e", DIRECTORY));
        due("create", 4, t.create("d/e/f", FILE));
        due("links of d", 2, t.about(2, 3));
        due("in use", -1, t.unlink(1, "d"));
        due("in use", -1, t.unlink(1, "d/e"));
        due("dot of d", -1, t.unlink(1, "d/."));
        due("dots of e", -1, t.unlink(1, "d/e/.."));
        due("links of d", 2, t.about(2, 3));
        due("unlink f", 4, t.unlink(1, "d/e/f"));
        due("unlink e", 3, t.unlink(1, "d/e"));
        due("links of d", 1, t.about(2, 3));
        due("links of the root", 3, t.about(1, 3));
        dueEntry(t, 40, 0, "0 ______________");
        dueEntry(t, 40, 16, "0 ______________");
        due("dot of an empty one", -1, t.unlink(1, "d/."));
        due("dots of an empty one", -1, t.unlink(1, "d/.."));
        due("it has them still", 1, t.find(2, "./.."));
        due("unlink d", 2, t.unlink(1, "d"));
        due("links of the root", 2, t.about(1, 3));
        due("three dots are a name", 2, t.create("...", DIRECTORY));
        due("three dots are a name", 2, t.unlink(1, "..."));
        due("dots and a letter", 2, t.create(".x", FILE));
        due("dots and a letter", 2, t.unlink(1, ".x"));
        due("of the new root", -1, new Tree().unlink(1, "."));
        due("free", 473, t.free());
    }

    private static void unlinkHeldDirectory() {
        Tree t = new Tree(Tree.ANY_NUMBER);
        due("create", 2, t.create("d", DIRECTORY));
        due("create", 3, t.create("f", FILE));
        due("hold", true, t.hold(2));
        due("hold", true, t.hold(2));
        due("unlink", 2, t.unlink(1, "d"));
        int[] d = {1, 0, 0, 0, 32, 2};
        for (int what = 0; what < 6; what++) {
            due("directory " + what, d[what], t.about(2, what));
        }
        due("links of the root", 2, t.about(1, 3));
        due("its block stays", 472, t.free());
        due("no dot", -1, t.find(2, "."));
        due("no dots", -1, t.find(2, ".."));
        due("itself", 2, t.find(2, ""));
        due("absolute", 3, t.find(2, "/f"));
        t.text("x");
        due("no entry", -1, t.create(2, FILE, 0, 0));
        t.text("x");
        due("no entry", -1, t.create(2, DIRECTORY, 0, 0));
        due("no link", -1, t.link(2, "/f x"));
        due("same links", 1, t.about(3, 3));
        due("read", 32, t.read(2, 0, 100));
        due("nothing", 0, t.at(0));
        due("leave", true, t.leave(2));
        due("still there", 1, t.about(2, 0));
        due("leave", true, t.leave(2));
        due("gone", 0, t.about(2, 0));
        due("its block", 473, t.free());
        due("not from there", -1, t.find(2));
    }

    private static void holdAndLeave() {
        Tree t = new Tree(Tree.ANY_NUMBER);
        int[] none = {-1, 0, 2, 63, 64, Integer.MIN_VALUE, Integer.MAX_VALUE};
        for (int inode : none) {
            due("hold " + inode, false, t.hold(inode));
            due("leave " + inode, false, t.leave(inode));
        }
        due("not held", false, t.leave(1));
        due("hold", true, t.hold(1));
        due("leave", true, t.leave(1));
        due("the root stays", 1, t.about(1, 0));
        due("create", 2, t.create("f", FILE));
        due("save", 5, t.save(2, 0, 5));
        due("hold", true, t.hold(2));
        due("hold", true, t.hold(2));
        due("held", 2, t.about(2, 5));
        due("leave", true, t.leave(2));
        due("unlink", 2, t.unlink(1, "f"));
        due("it stays", 2, t.about(2, 0));
        due("its number is not free", 3, t.create("g", FILE));
        due("save", 5, t.save(2, 5, 5));
        due("read", 10, t.read(2, 0, 100));
        due("hold without links", true, t.hold(2));
        due("leave", true, t.leave(2));
        due("leave", true, t.leave(2));
        due("it is gone", 0, t.about(2, 0));
        due("not held", false, t.leave(2));
        due("not in use", false, t.hold(2));
        due("free", 473, t.free());
    }

    private static void read() {
        Tree t = new Tree(Tree.ANY_NUMBER);
        due("create", 2, t.create("f", FILE));
        due("create", 3, t.create("v", DEVICE));
        due("empty", 0, t.read(2, 0, 3072));
        t.fill(0, 3072, 0);
        t.grow(2, 0, 14 * 1024 + 7);
        due("size", 14343, t.about(2, 4));
        t.fill(0, 3072, 100);
        due("over four blocks", 3072, t.read(2, 1000, 3072));
        for (int i = 0; i < 3072; i++) {
            due("byte " + i, (1000 + i) % 3072 & 255, t.at(i));
        }
        t.fill(0, 3072, 100);
        due("over the twelfth", 100, t.read(2, 12250, 100));
        for (int i = 0; i < 100; i++) {
            due("byte " + i, (12250 + i) % 3072 & 255, t.at(i));
        }
        due("the rest stays", 200, t.at(100));
        due("at the end", 7, t.read(2, 14336, 3072));
        due("the last", 1, t.read(2, 14342, 3072));
        due("behind it", 0, t.read(2, 14343, 3072));
        due("far behind it", 0, t.read(2, Integer.MAX_VALUE, 3072));
        due("nothing", 0, t.read(2, 5, 0));
        due("nothing", 0, t.read(2, 0, 0));
        due("at -1", -1, t.read(2, -1, 1));
        due("n -1", -1, t.read(2, 0, -1));
        due("n 3073", -1, t.read(2, 0, 3073));
        due("n 3073 behind the end", -1, t.read(2, 99999, 3073));
        due("device", -1, t.read(3, 0, 0));
        int[] none = {-1, 0, 4, 63, 64, Integer.MIN_VALUE, Integer.MAX_VALUE};
        for (int inode : none) {
            due("none " + inode, -1, t.read(inode, 0, 1));
        }
        due("directory", 64, t.read(1, 0, 3072));
        due("entry of f", 2, t.at(32));
        due("name of f", 'f', t.at(34));
        due("entry of v", 3, t.at(48));
    }

    private static void save() {
        Tree t = new Tree(Tree.ANY_NUMBER);
        due("create", 2, t.create("f", FILE));
        due("create", 3, t.create("v", DEVICE));
        t.fill(0, 3072, 7);
        due("nothing", 0, t.save(2, 0, 0));
        due("no block", 473, t.free());
        due("1024", 1024, t.save(2, 0, 1024));
        due("one block", 472, t.free());
        due("size", 1024, t.about(2, 4));
        due("nothing at the end", 0, t.save(2, 1024, 0));
        due("one block", 472, t.free());
        due("one byte", 1, t.save(2, 1024, 1));
        due("two blocks", 471, t.free());
        due("size", 1025, t.about(2, 4));
        due("bytes", 7, t.peek(39, 0));
        due("bytes", (7 + 1023) & 255, t.peek(39, 1023));
        due("bytes", 7, t.peek(40, 0));
        due("bytes 0 behind it", 0, t.peek(40, 1));
        due("size on its block", 1025, t.number(33, 136));
        due("behind the end", -1, t.save(2, 1026, 1));
        due("nothing behind the end", -1, t.save(2, 1026, 0));
        due("at -1", -1, t.save(2, -1, 1));
        due("at MIN", -1, t.save(2, Integer.MIN_VALUE, 1));
        due("at MAX", -1, t.save(2, Integer.MAX_VALUE, 1));
        due("n -1", -1, t.save(2, 0, -1));
        due("n 3073", -1, t.save(2, 0, 3073));
        due("device", -1, t.save(3, 0, 0));
        due("directory", -1, t.save(1, 0, 1));
        int[] none = {-1, 0, 4, 63, 64, Integer.MIN_VALUE, Integer.MAX_VALUE};
        for (int inode : none) {
            due("none " + inode, -1, t.save(inode, 0, 0));
        }
        due("size stays", 1025, t.about(2, 4));
        due("block numbers", 39, t.inodeNumber(2, 0));
        due("block numbers", 40, t.inodeNumber(2, 1));
        due("block numbers", 0, t.inodeNumber(2, 2));
    }

    private static void saveOverOldBytes() {
        Tree t = new Tree(Tree.ANY_NUMBER);
        due("create", 2, t.create("f", FILE));
        t.fill(0, 3072, 0);
        t.grow(2, 0, 5000);
        int free = t.free();
        t.fill(0, 3072, 128);
        due("in the middle", 1100, t.save(2, 1000, 1100));
        due("size stays", 5000, t.about(2, 4));
        due("no block", free, t.free());
        t.read(2, 998, 1104);
        due("before", 998 & 255, t.at(0));
        due("before", 999 & 255, t.at(1));
        for (int i = 0; i < 1100; i++) {
            due("byte " + i, (128 + i) & 255, t.at(2 + i));
        }
        due("behind", 2100 & 255, t.at(1102));
        due("over the end", 3000, t.save(2, 4000, 3000));
        due("size", 7000, t.about(2, 4));
        due("two blocks", free - 2, t.free());
    }

    private static void saveLimits() {
        Tree t = new Tree(Tree.ANY_NUMBER);
        due("create", 2, t.create("f", FILE));
        due("12 blocks", 12288, t.grow(2, 0, 12288));
        due("free", 461, t.free());
        due("1 byte more", 1, t.save(2, 12288, 1));
        due("two blocks", 459, t.free());
        due("the block of numbers first", 51, t.inodeNumber(2, 12));
        due("then that of bytes", 52, t.number(51, 0));
        due("no other number", 0, t.number(51, 4));
        due("all but a byte", 274431 - 12289, t.grow(2, 12289, 274431 - 12289));
        due("size", 274431, t.about(2, 4));
        due("free", 473 - 269, t.free());
        due("beyond", -1, t.save(2, 274431, 2));
        due("changes nothing", 274431, t.about(2, 4));
        due("beyond", -1, t.save(2, 274000, 500));
        due("the last one", 1, t.save(2, 274431, 1));
        due("size", 274432, t.about(2, 4));
        due("no more", -1, t.save(2, 274432, 1));
        due("nothing", 0, t.save(2, 274432, 0));
        t.fill(0, 3072, 9);
        due("the last block", 3072, t.save(2, 271360, 3072));
        due("its last byte", (9 + 3071) & 255, t.peek(t.number(51, 255 * 4), 1023));
        due("unlink", 2, t.unlink(1, "f"));
        due("all are free", 473, t.free());
        due("numbers stay on their block", 52, t.number(51, 0));
    }

    private static void saveUntilFull() {
        Tree t = new Tree(Tree.ANY_NUMBER);
        leaveFree(t, 2);
        due("create", 4, t.create("f", FILE));
        t.fill(0, 3072, 3);
        due("100", 100, t.save(4, 0, 100));
        due("up to the full block", 1948, t.save(4, 100, 3072));
        due("size", 2048, t.about(4, 4));
        due("full", 0, t.free());
        due("nothing", 0, t.save(4, 2048, 10));
        due("over old bytes", 2048, t.save(4, 0, 3072));
        due("over old bytes", 48, t.save(4, 2000, 3072));
        due("size", 2048, t.about(4, 4));
        due("bytes", 3, t.peek(511, 2000 - 1024));
    }

    private static void saveWithOneBlockForTwo() {
        Tree t = new Tree(Tree.ANY_NUMBER);
        due("create", 2, t.create("f", FILE));
        due("11 blocks", 11 * 1024, t.grow(2, 0, 11 * 1024));
        due("create", 3, t.create("g", FILE));
        leaveFree(t, 2);
        due("full2 is", 5, t.find(1, "full2"));
        due("two left", 2, t.free());
        due("only one block comes", 1024, t.save(2, 11264, 3072));
        due("one left", 1, t.free());
        due("size", 12288, t.about(2, 4));
        due("no number 12", 0, t.inodeNumber(2, 12));
        due("none comes", 0, t.save(2, 12288, 3072));
        due("one left", 1, t.free());
        due("another file takes it", 1, t.save(3, 0, 1));
        due("none left", 0, t.free());
        due("none comes", 0, t.save(2, 12288, 1));
        due("clear", true, t.clear(3));
        due("one left", 1, t.free());
        due("unlink", 5, t.unlink(1, "full2"));
        due("both come", 1, t.save(2, 12288, 1));
        due("numbers first", 1, t.inodeNumber(2, 12) < t.number(t.inodeNumber(2, 12), 0) ? 1 : 0);
    }

    private static void clear() {
        Tree t = new Tree(Tree.ANY_NUMBER);
        t.text("f");
        due("create", 2, t.create(1, FILE, 11, 12));
        due("create", 3, t.create("v", DEVICE));
        t.fill(0, 3072, 1);
        t.grow(2, 0, 20 * 1024);
        due("free", 473 - 21, t.free());
        due("hold", true, t.hold(2));
        due("clear", true, t.clear(2));
        due("free", 473, t.free());
        int[] f = {2, 11, 12, 1, 0, 1};
        for (int what = 0; what < 6; what++) {
            due("file " + what, f[what], t.about(2, what));
        }
        for (int k = 0; k < 13; k++) {
            due("number " + k, 0, t.inodeNumber(2, k));
        }
        due("bytes stay on a free block", 1, t.peek(39, 0));
        due("nothing to read", 0, t.read(2, 0, 1));
        due("an empty one", true, t.clear(2));
        due("saved anew", 1, t.save(2, 0, 1));
        due("bytes 0 first", 0, t.peek(39, 1));
        due("directory", false, t.clear(1));
        due("device", false, t.clear(3));
        int[] none = {-1, 0, 4, 63, 64, Integer.MIN_VALUE, Integer.MAX_VALUE};
        for (int inode : none) {
            due("none " + inode, false, t.clear(inode));
        }
    }

    private static void about() {
        Tree t = new Tree(Tree.ANY_NUMBER);
        t.text("v");
        due("create", 2, t.create(1, DEVICE, -1, 40000));
        due("kind", 3, t.about(2, 0));
        due("major", 65535, t.about(2, 1));
        due("minor", 40000, t.about(2, 2));
        due("links", 1, t.about(2, 3));
        due("size", 0, t.about(2, 4));
        due("held", 0, t.about(2, 5));
        due("what -1", -1, t.about(2, -1));
        due("what 6", -1, t.about(2, 6));
        due("inode -1", -1, t.about(-1, 0));
        due("inode 64", -1, t.about(64, 0));
        due("inode MIN", -1, t.about(Integer.MIN_VALUE, 5));
        due("inode MAX", -1, t.about(Integer.MAX_VALUE, 5));
        for (int what = 0; what < 6; what++) {
            due("inode 0", 0, t.about(0, what));
            due("inode 63", 0, t.about(63, what));
        }
        due("what 6 of a free one", -1, t.about(63, 6));
    }

    private static void free() {
        Tree t = new Tree(Tree.ANY_NUMBER);
        due("new", 473, t.free());
        due("create", 2, t.create("f", FILE));
        due("a file has none", 473, t.free());
        due("create", 3, t.create("d", DIRECTORY));
        due("a directory has one", 472, t.free());
        t.grow(2, 0, 3072);
        due("three", 469, t.free());
        due("bits", 7, t.peek(37, 5));
        due("clear", true, t.clear(2));
        due("back", 472, t.free());
        due("the map", 255, t.peek(37, 4));
        due("the map", 0, t.peek(37, 5));
    }

    private static void forget() {
        Tree t = new Tree(Tree.ANY_NUMBER);
        due("nothing held", 0, t.forget());
        due("create", 2, t.create("f", FILE));
        due("create", 3, t.create("d", DIRECTORY));
        due("create", 4, t.create("v", DEVICE));
        due("create", 5, t.create("g", FILE));
        due("save", 3000, t.save(2, 0, 3000));
        for (int inode = 1; inode < 6; inode++) {
            due("hold", true, t.hold(inode));
            due("hold", true, t.hold(inode));
        }
        due("unlink", 2, t.unlink(1, "f"));
        due("unlink", 3, t.unlink(1, "d"));
        due("unlink", 4, t.unlink(1, "v"));
        due("still used", 469, t.free());
        due("forget", 3, t.forget());
        due("free", 473, t.free());
        for (int inode = 1; inode < 6; inode++) {
            due("held " + inode, 0, t.about(inode, 5));
            due("kind " + inode, inode == 1 ? 1 : inode == 5 ? 2 : 0, t.about(inode, 0));
            due("leave " + inode, false, t.leave(inode));
        }
        due("again", 0, t.forget());
        due("the least number", 2, t.create("x", FILE));
    }

    private static void fill() {
        Tree t = new Tree(Tree.ANY_NUMBER);
        due("all", true, t.fill(0, 3072, 250));
        due("first", 250, t.at(0));
        due("sixth", 255, t.at(5));
        due("over 255", 0, t.at(6));
        due("last", (250 + 3071) & 255, t.at(3071));
        due("some", true, t.fill(10, 3, -1));
        due("before", 3, t.at(9));
        due("-1", 255, t.at(10));
        due("0", 0, t.at(11));
        due("1", 1, t.at(12));
        due("behind", 7, t.at(13));
        due("none at the end", true, t.fill(3072, 0, 1));
        due("one at the end", false, t.fill(3072, 1, 1));
        due("the last one", true, t.fill(3071, 1, 77));
        due("the last one", 77, t.at(3071));
        due("one too many", false, t.fill(3071, 2, 99));
        due("nothing changed", 77, t.at(3071));
        due("k -1", false, t.fill(-1, 1, 1));
        due("k 3073", false, t.fill(3073, 0, 1));
        due("n -1", false, t.fill(0, -1, 1));
        due("n 3073", false, t.fill(0, 3073, 1));
        due("n MAX", false, t.fill(1, Integer.MAX_VALUE, 1));
        due("n MIN", false, t.fill(1, Integer.MIN_VALUE, 1));
        due("k MAX", false, t.fill(Integer.MAX_VALUE, 1, 1));
        due("b MAX", true, t.fill(0, 2, Integer.MAX_VALUE));
        due("b MAX", 255, t.at(0));
        due("b MAX + 1", 0, t.at(1));
    }

    private static void at() {
        Tree t = new Tree(Tree.ANY_NUMBER);
        t.fill(0, 3072, 128);
        due("without sign", 128, t.at(0));
        due("last", (128 + 3071) & 255, t.at(3071));
        due("-1", -1, t.at(-1));
        due("3072", -1, t.at(3072));
        due("MIN", -1, t.at(Integer.MIN_VALUE));
        due("MAX", -1, t.at(Integer.MAX_VALUE));
    }

    private static void peek() {
        Tree t = new Tree(Tree.ANY_NUMBER);
        due("lowest byte first", 0x40, t.peek(1, 0));
        due("then", 0x30, t.peek(1, 1));
        due("then", 0x20, t.peek(1, 2));
        due("then", 0x10, t.peek(1, 3));
        due("without sign", 255, t.peek(37, 0));
        due("first", 0, t.peek(0, 0));
        due("last", 0, t.peek(511, 1023));
        due("block -1", -1, t.peek(-1, 0));
        due("block 512", -1, t.peek(512, 0));
        due("byte -1", -1, t.peek(38, -1));
        due("byte 1024", -1, t.peek(38, 1024));
        due("MAX", -1, t.peek(Integer.MAX_VALUE, Integer.MAX_VALUE));
        due("MIN", -1, t.peek(Integer.MIN_VALUE, Integer.MIN_VALUE));
    }

    private static void wrongFrom() {
        Tree t = new Tree(Tree.ANY_NUMBER);
        due("create", 2, t.create("f", FILE));
        int[] none = {-1, 0, 3, 63, 64, Integer.MIN_VALUE, Integer.MAX_VALUE};
        for (int from : none) {
            due("empty from " + from, -1, t.find(from, ""));
            due("root from " + from, -1, t.find(from, "/"));
            due("find from " + from, -1, t.find(from, "/f"));
            t.text("g");
            due("create from " + from, -1, t.create(from, FILE, 0, 0));
            due("link from " + from, -1, t.link(from, "f g"));
            t.text("f");
            due("unlink from " + from, -1, t.unlink(from));
        }
        due("nothing changed", 1, t.about(2, 3));
    }
}
