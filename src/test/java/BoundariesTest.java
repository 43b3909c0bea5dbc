import java.io.IOException;
import java.lang.reflect.InvocationTargetException;
import java.lang.reflect.Method;
import java.nio.charset.StandardCharsets;
import java.nio.file.Files;
import java.nio.file.Path;
import java.util.ArrayList;
import java.util.Comparator;
import java.util.LinkedHashMap;
import java.util.List;
import java.util.Map;
import java.util.function.IntUnaryOperator;
import java.util.function.Supplier;
import java.util.regex.Matcher;
import java.util.regex.Pattern;

/**
 * The document sentence by sentence: each test bears the sentence that it is about, and each object
 * is used for no more than the 512 calls for which the document promises anything (but where a test
 * says so). At the end the sentences are compared with the document itself: each must stand there,
 * and none of the document's may be without a test.
 */
public final class BoundariesTest {
    private static final int NONE = -1;
    private static final int DIRECTORY = 1;
    private static final int FILE = 2;
    private static final int DEVICE = 3;
    private static final int MIN = Integer.MIN_VALUE;
    private static final int MAX = Integer.MAX_VALUE;
    private static final int[] NO_INODES = {MIN, -65536, -64, -1, 64, 65, 128, 65537, MAX};
    private static final int[] SUPERBLOCK = {270544960, 512, 474, 64, 31, 2, 33, 37};

    private static String test = "";
    private static int wrong = 0;

    public static void main(String[] args) throws IOException, IllegalAccessException {
        List<Method> tests = new ArrayList<>();
        for (Method m : BoundariesTest.class.getDeclaredMethods()) {
            if (m.isAnnotationPresent(Sentence.class)) {
                tests.add(m);
            }
        }
        String document = documentAt(Path.of("../shared/DOC.md"));
        tests.sort(Comparator.comparing((Method m) -> document.indexOf(sentence(m).says())).thenComparing(Method::getName));
        list(tests);
        for (Method m : tests) {
            run(m);
        }
        compareWithDocument(tests, document);
        System.out.println(wrong == 0 ? tests.size() + " tests of sentences hold" : wrong + " answers are not as due");
        if (wrong != 0) {
            System.exit(1);
        }
    }

    private static Sentence sentence(Method m) {
        return m.getAnnotation(Sentence.class);
    }

    /** The document on one line; nothing if it is not here. */
    private static String documentAt(Path path) throws IOException {
        if (!Files.isReadable(path)) {
            System.out.println(path + " is not here: the sentences are not compared with it");
            return "";
        }
        return Files.readString(path, StandardCharsets.UTF_8).replaceAll("```\\w*", " ").replaceAll("\\s+", " ");
    }

    private static void run(Method m) throws IllegalAccessException {
        test = m.getName();
        try {
            m.invoke(null);
        } catch (InvocationTargetException e) {
            fault("it threw " + e.getCause());
        }
    }

    private static void fault(String what) {
        wrong++;
        if (wrong <= 200) {
            System.out.println(test + ": " + what);
        }
    }

    /** Which sentences have which tests, and which boundaries are out of reach. */
    private static void list(List<Method> tests) {
        Map<String, List<String>> names = new LinkedHashMap<>();
        for (Method m : tests) {
            Sentence s = sentence(m);
            List<String> row = names.computeIfAbsent(s.in() + ": " + s.says(), k -> new ArrayList<>());
            row.add(m.getName());
            if (!s.unreached().isEmpty()) {
                row.add("(out of reach: " + s.unreached() + ")");
            }
        }
        for (Map.Entry<String, List<String>> e : names.entrySet()) {
            System.out.println(e.getKey());
            System.out.println("    " + String.join(", ", e.getValue()));
        }
    }

    private static void compareWithDocument(List<Method> tests, String document) {
        test = "compareWithDocument";
        if (document.isEmpty()) {
            return;
        }
        for (Method m : tests) {
            if (!document.contains(sentence(m).says())) {
                fault("the sentence of " + m.getName() + " does not stand in the document");
            }
        }
        for (String section : document.split("## ")) {
            Matcher heading = Pattern.compile("Terms|(Promise \\d+): [^`]*`[^`]*`:").matcher(section);
            if (heading.lookingAt()) {
                String name = heading.group(1) == null ? heading.group() : heading.group(1);
                compareSection(tests, name, section.substring(heading.end()));
            }
        }
    }

    /** Once the sentences with tests are taken out of a section, nothing may be left. */
    private static void compareSection(List<Method> tests, String name, String section) {
        String rest = section;
        for (Method m : tests) {
            rest = sentence(m).in().equals(name) ? rest.replace(sentence(m).says(), " ") : rest;
        }
        if (!rest.isBlank()) {
            fault("no test in " + name + " for: " + rest.trim());
        }
    }

    private static void due(String what, long want, long got) {
        if (want != got) {
            fault(what + " answered " + got + ", due is " + want);
        }
    }

    private static void due(String what, boolean want, boolean got) {
        if (want != got) {
            fault(what + " answered " + got + ", due is " + want);
        }
    }

    private static void due(String what, String want, String got) {
        if (!want.equals(got)) {
            fault(what + " is " + got + ", due is " + want);
        }
    }

    /** Every byte of a block from first on and before end; a tree used up is made anew. */
    private static void dueBytes(String what, Supplier<Tree> maker, int block, int first, int end, IntUnaryOperator want) {
        Tree t = maker.get();
        for (int k = first; k < end; k++) {
            t = t.callsLeft() == 0 ? maker.get() : t;
            due(what + ", byte " + k + " of block " + block, want.applyAsInt(k), t.peek(block, k));
        }
    }

    private static void dueBuffer(String what, Supplier<Tree> maker, int first, int end, IntUnaryOperator want) {
        Tree t = maker.get();
        for (int k = first; k < end; k++) {
            t = t.callsLeft() == 0 ? maker.get() : t;
            due(what + ", byte " + k + " of the buffer", want.applyAsInt(k), t.at(k));
        }
    }

    private static void dueAbout(String what, Tree t, int inode, int... want) {
        for (int i = 0; i < want.length; i++) {
            due(what + ", about " + i, want[i], t.about(inode, i));
        }
    }

    private static int blocksFor(int size) {
        int blocks = (size + 1023) / 1024;
        return blocks > 12 ? blocks + 1 : blocks;
    }

    /**
     * A tree with three files in its root, x (inode 2) of a size, A (3) of the greatest size and B (4)
     * of what it takes to leave just so many blocks free.
     */
    private static Tree filled(int size, int left) {
        Tree t = new Tree();
        t.create("x", FILE);
        t.grow(2, 0, size);
        t.create("A", FILE);
        t.grow(3, 0, 274432);
        t.create("B", FILE);
        t.grow(4, 0, (473 - blocksFor(size) - 269 - 1 - left) * 1024);
        due("free", left, t.free());
        return t;
    }

    /** So many entries more for the root's file x. */
    private static void addLinks(Tree t, int count) {
        for (int i = 0; i < count; i++) {
            due("link", 2, t.link(1, "x l" + i));
        }
    }

    /** The tree of filled, the root's one block being full of entries. */
    private static Tree filledRoot(int left) {
        Tree t = filled(0, left);
        addLinks(t, 64 - 5);
        due("root's size", 1024, t.about(1, 4));
        return t;
    }

    /** The buffer gets bytes by which neighbouring blocks of a file differ. */
    private static void fillPattern(Tree t) {
        t.fill(0, 1024, 10);
        t.fill(1024, 1024, 70);
        t.fill(2048, 1024, 130);
    }

    /** What byte p of a file is after fillPattern and grow. */
    private static int pattern(int p) {
        return 10 + 60 * (p / 1024 % 3) + p % 1024 & 255;
    }

    // ---- What it is

    @Sentence(in = "What it is", says = "An object is used for at most 512 calls after it has been made;"
            + " what later calls answer is free.")
    private static void call512() {
        Tree t = new Tree();
        for (int i = 1; i < 512; i++) {
            due("hold " + i, true, t.hold(1));
        }
        due("the 512th call", 511, t.about(1, 5));
        due("calls left", 0, t.callsLeft());
    }

    /** LANGUAGE.md, rule 7: later calls must end, too, and throw nothing; their answers are not looked at. */
    @Sentence(in = "What it is", says = "An object is used for at most 512 calls after it has been made;"
            + " what later calls answer is free.")
    private static void callsBehind512() {
        Tree t = new Tree(Tree.ANY_NUMBER);
        int[] numbers = {MIN, -1, 0, 1, 2, 3072, MAX};
        for (int i = 0; i < 600; i++) {
            int n = numbers[i % numbers.length];
            int m = numbers[i / numbers.length % numbers.length];
            t.write(n * 65537L);
            t.find(n);
            t.write(0x612F62202F61L);
            t.link(n);
            t.write(0x61L);
            t.create(n, m, n, m);
            t.hold(n);
            t.leave(m);
            t.read(n, m, m);
            t.save(n, m, n);
            t.clear(n);
            t.about(n, m);
            t.fill(n, m, n);
            t.at(n);
            t.peek(n, m);
            t.write(0x61L);
            t.unlink(n);
            t.free();
            t.forget();
        }
    }

    // ---- Terms

    @Sentence(in = "Terms", says = "All memory is the tree's own, made once.")
    private static void twoTreesShareNothing() {
        Tree one = new Tree();
        Tree other = new Tree();
        one.create("f", FILE);
        one.fill(0, 3072, 9);
        one.save(2, 0, 3072);
        one.hold(1);
        one.text("f");
        due("inode", 0, other.about(2, 0));
        due("held", 0, other.about(1, 5));
        due("buffer", 0, other.at(0));
        due("free", 473, other.free());
        due("block", 0, other.peek(39, 0));
        due("text", 1, other.find(1));
        due("the first one's text", 2, one.find(1));
    }

    @Sentence(in = "Terms", says = "BLOCKS are 0 .. 511, of 1,024 bytes each; numbers in them have the lowest byte first.")
    private static void blocks0To511() {
        Tree t = new Tree();
        due("first byte of all", 0, t.peek(0, 0));
        due("last byte of the first", 0, t.peek(0, 1023));
        due("first byte of the last", 0, t.peek(511, 0));
        due("last byte of all", 0, t.peek(511, 1023));
        due("block -1", NONE, t.peek(-1, 0));
        due("block -1's last", NONE, t.peek(-1, 1023));
        due("block 512", NONE, t.peek(512, 0));
        due("byte -1", NONE, t.peek(1, -1));
        due("byte 1024", NONE, t.peek(0, 1024));
    }

    @Sentence(in = "Terms", says = "BLOCKS are 0 .. 511, of 1,024 bytes each; numbers in them have the lowest byte first.")
    private static void lowestByteFirst() {
        Tree t = new Tree();
        int[] first = {0x40, 0x30, 0x20, 0x10};
        for (int k = 0; k < 4; k++) {
            due("superblock's byte " + k, first[k], t.peek(1, k));
        }
        t.text("f");
        t.create(1, FILE, 0x1234, 0xFEDC);
        int size = 0x010203;
        due("grow", size, t.grow(2, 0, size));
        int[] inode = {2, 0, 0x34, 0x12, 0xDC, 0xFE, 1, 0, 3, 2, 1, 0, 39, 0, 0, 0};
        for (int k = 0; k < inode.length; k++) {
            due("inode's byte " + k, inode[k], t.peek(33, 128 + k));
        }
        due("grow", 274432 - size, t.grow(2, size, 274432 - size));
        due("number 255 of those of more, low", 307 & 255, t.peek(51, 1020));
        due("number 255 of those of more, high", 307 >> 8, t.peek(51, 1021));
    }

    @Sentence(in = "Terms", says = "Block 1 is the SUPERBLOCK: numbers (4 bytes each) 270544960, 512, 474, 64, 31, 2, 33, 37.")
    private static void superblock() {
        for (Tree t : new Tree[] {new Tree(), filled(0, 0)}) {
            for (int i = 0; i < SUPERBLOCK.length; i++) {
                due("number " + i, SUPERBLOCK[i], t.number(1, 4 * i));
            }
            due("behind them", 0, t.number(1, 32));
            due("before them", 0, t.number(0, 1020));
        }
    }

    @Sentence(in = "Terms", says = "Blocks 33 to 36 have the INODES 0 .. 63, 64 bytes each: KIND (2 bytes: 0 free,"
            + " 1 a directory, 2 a file, 3 a device), MAJOR (2), MINOR (2), LINKS (2), SIZE (4), 13 numbers of blocks"
            + " (4 each, 0: none).")
    private static void inodes0To63() {
        Tree t = new Tree();
        for (int i = 2; i < 64; i++) {
            t.text("n" + i);
            due("create", i, t.create(1, 1 + i % 3, 100 + i, 65535 - i));
        }
        int[] edges = {2, 15, 16, 31, 32, 47, 48, 62, 63};
        for (int i : edges) {
            int block = 33 + i / 16;
            int k = i % 16 * 64;
            due("kind of " + i, 1 + i % 3, t.half(block, k));
            due("major of " + i, 100 + i, t.half(block, k + 2));
            due("minor of " + i, 65535 - i, t.half(block, k + 4));
            due("links of " + i, 1, t.half(block, k + 6));
            due("size of " + i, i % 3 == 0 ? 32 : 0, t.number(block, k + 8));
        }
        due("block before the inodes", 0, t.number(32, 1020));
        for (int k = 0; k < 64; k++) {
            due("inode 0", 0, t.peek(33, k));
        }
    }

    @Sentence(in = "Terms", says = "Blocks 33 to 36 have the INODES 0 .. 63, 64 bytes each: KIND (2 bytes: 0 free,"
            + " 1 a directory, 2 a file, 3 a device), MAJOR (2), MINOR (2), LINKS (2), SIZE (4), 13 numbers of blocks"
            + " (4 each, 0: none).")
    private static void thirteenNumbers() {
        Tree t = new Tree();
        for (int i = 2; i < 64; i++) {
            due("create", i, t.create("n" + i, FILE));
        }
        for (int k = 0; k < 13; k++) {
            due("number " + k + " of an empty file", 0, t.inodeNumber(63, k));
        }
        int block = t.free() == 473 ? 39 : 40;
        due("12 blocks", 12288, t.grow(63, 0, 12288));
        for (int k = 0; k < 12; k++) {
            due("number " + k + " of 12 blocks", block + k, t.number(36, 960 + 12 + 4 * k));
        }
        due("number 12 of 12 blocks", 0, t.number(36, 1020));
        due("one byte more", 1, t.save(63, 12288, 1));
        due("number 12 of 13 blocks", block + 12, t.number(36, 1020));
    }

    @Sentence(in = "Terms", says = "Block 37 has a bit for each block, the lowest of byte 0 for block 0: whether it is used.")
    private static void bitForEachBlock() {
        dueBytes("new map", Tree::new, 37, 0, 1024, k -> k < 4 ? 255 : k == 4 ? 127 : 0);
        dueBytes("one block left", () -> filled(0, 1), 37, 0, 1024, k -> k < 63 ? 255 : k == 63 ? 127 : 0);
        dueBytes("full map", () -> filled(0, 0), 37, 0, 1024, k -> k < 64 ? 255 : 0);
        Tree t = filled(0, 0);
        due("clear", true, t.clear(3));
        due("the bits before A", 127, t.peek(37, 4));
        due("the bits of A", 0, t.peek(37, 5));
        due("the bits of A", 0, t.peek(37, 37));
        due("A's last ones, B's first ones", 0xF0, t.peek(37, 38));
        due("B's last ones", 255, t.peek(37, 63));
    }

    @Sentence(in = "Terms", says = "Blocks 38 to 511 are for what files have; those of a file's bytes k * 1024 and on,"
            + " k = 0 .. 11, is number k of the inode; its number 12 is a block of 256 numbers of those with k = 12 .. 267.")
    private static void firstAndLastBlockOfFiles() {
        Tree t = filled(0, 0);
        due("the first is the root's", 38, t.inodeNumber(1, 0));
        due("the next one is A's", 39, t.inodeNumber(3, 0));
        int more = t.inodeNumber(4, 12);
        due("B's numbers", 39 + 269 + 12, more);
        due("the last is B's", 511, t.number(more, 4 * (203 - 12 - 1)));
        due("and no other", 0, t.number(more, 4 * (203 - 12)));
    }

    @Sentence(in = "Terms", says = "Blocks 38 to 511 are for what files have; those of a file's bytes k * 1024 and on,"
            + " k = 0 .. 11, is number k of the inode; its number 12 is a block of 256 numbers of those with k = 12 .. 267.")
    private static void numbersOfAFile() {
        Tree t = new Tree();
        t.create("f", FILE);
        fillPattern(t);
        due("grow", 274432, t.grow(2, 0, 274432));
        int[] edges = {0, 1, 10, 11, 12, 13, 266, 267};
        int more = t.inodeNumber(2, 12);
        due("the block of numbers", 51, more);
        for (int k : edges) {
            int block = k < 12 ? t.inodeNumber(2, k) : t.number(more, 4 * (k - 12));
            due("number " + k, k < 12 ? 39 + k : 40 + k, block);
            due("first byte of block " + k, pattern(k * 1024), t.peek(block, 0));
            due("last byte of block " + k, pattern(k * 1024 + 1023), t.peek(block, 1023));
        }
    }

    @Sentence(in = "Terms", says = "A file has as many blocks as its SIZE needs, and one more beyond 12: nothing else is"
            + " used of them.")
    private static void blocksForEachSize() {
        Tree t = new Tree();
        t.create("f", FILE);
        int[] sizes = {0, 1, 1023, 1024, 1025, 2048, 2049, 11264, 11265, 12287, 12288, 12289, 13312, 13313, 273408,
            273409, 274431, 274432};
        int[] blocks = {0, 1, 1, 1, 2, 2, 3, 11, 12, 12, 12, 14, 14, 15, 268, 269, 269, 269};
        int size = 0;
        for (int i = 0; i < sizes.length; i++) {
            due("grow to " + sizes[i], sizes[i] - size, t.grow(2, size, sizes[i] - size));
            size = sizes[i];
            due("size", size, t.about(2, 4));
            due("blocks of " + size, 473 - blocks[i], t.free());
        }
    }

    @Sentence(in = "Terms", says = "A file has as many blocks as its SIZE needs, and one more beyond 12: nothing else is"
            + " used of them.")
    private static void nothingElseIsUsed() {
        Supplier<Tree> maker = () -> {
            Tree t = new Tree();
            t.create("f", FILE);
            t.fill(0, 3072, 1);
            t.grow(2, 0, 12289);
            return t;
        };
        dueBytes("numbers behind the first", maker, 51, 4, 1024, k -> 0);
        dueBytes("bytes behind the size", maker, 52, 1, 1024, k -> 0);
    }

    @Sentence(in = "Terms", says = "A block that comes is the least that is free, the one of numbers before the one of"
            + " bytes where both come; it has bytes 0 first (one that becomes free keeps its bytes until it comes again).")
    private static void leastFreeBlockComes() {
        Tree t = new Tree();
        t.create("a", FILE);
        t.create("b", FILE);
        t.create("c", FILE);
        t.save(2, 0, 2048);
        t.save(3, 0, 2048);
        t.save(4, 0, 1024);
        due("clear a", true, t.clear(2));
        due("clear c", true, t.clear(4));
        due("grow b", 3072, t.save(3, 2048, 3072));
        int[] want = {41, 42, 39, 40, 43};
        for (int k = 0; k < want.length; k++) {
            due("b's number " + k, want[k], t.inodeNumber(3, k));
        }
        due("a directory", 5, t.create("d", DIRECTORY));
        due("its block", 44, t.inodeNumber(5, 0));
        due("clear b", true, t.clear(3));
        due("a directory more", 6, t.create("e", DIRECTORY));
        due("its block", 39, t.inodeNumber(6, 0));
    }

    @Sentence(in = "Terms", says = "A block that comes is the least that is free, the one of numbers before the one of"
            + " bytes where both come; it has bytes 0 first (one that becomes free keeps its bytes until it comes again).")
    private static void numbersBeforeBytes() {
        Tree t = new Tree();
        for (int i = 0; i < 4; i++) {
            t.create("f" + i, FILE);
        }
        t.save(3, 0, 1024);
        t.save(4, 0, 1024);
        t.save(5, 0, 1024);
        due("12 blocks", 12288, t.grow(2, 0, 12288));
        due("clear", true, t.clear(3));
        due("clear", true, t.clear(5));
        due("a block more", 1024, t.save(2, 12288, 1024));
        due("numbers in the least", 39, t.inodeNumber(2, 12));
        due("bytes in the next", 41, t.number(39, 0));
        due("another one", 1024, t.save(2, 13312, 1024));
        due("behind all", 54, t.number(39, 4));
    }

    @Sentence(in = "Terms", says = "A block that comes is the least that is free, the one of numbers before the one of"
            + " bytes where both come; it has bytes 0 first (one that becomes free keeps its bytes until it comes again).")
    private static void comesWithBytes0() {
        Supplier<Tree> freed = () -> {
            Tree t = new Tree();
            t.fill(0, 1024, 1);
            t.fill(1024, 1024, 1);
            t.create("f", FILE);
            t.create("g", FILE);
            t.grow(3, 0, 12288);
            t.save(2, 0, 2048);
            t.clear(2);
            return t;
        };
        dueBytes("bytes", () -> {
            Tree t = freed.get();
            t.save(2, 0, 1);
            return t;
        }, 51, 1, 1024, k -> 0);
        dueBytes("numbers", () -> {
            Tree t = freed.get();
            t.save(3, 12288, 1);
            return t;
        }, 51, 4, 1024, k -> 0);
        dueBytes("entries", () -> {
            Tree t = freed.get();
            t.create("d", DIRECTORY);
            return t;
        }, 51, 32, 1024, k -> 0);
    }

    @Sentence(in = "Terms", says = "A block that comes is the least that is free, the one of numbers before the one of"
            + " bytes where both come; it has bytes 0 first (one that becomes free keeps its bytes until it comes again).")
    private static void freeBlockKeepsItsBytes() {
        Supplier<Tree> maker = () -> {
            Tree t = new Tree();
            fillPattern(t);
            t.create("f", FILE);
            t.grow(2, 0, 14336);
            return t;
        };
        Supplier<Tree> cleared = () -> {
            Tree t = maker.get();
            t.clear(2);
            return t;
        };
        Supplier<Tree> unlinked = () -> {
            Tree t = maker.get();
            t.unlink(1, "f");
            return t;
        };
        for (Supplier<Tree> freed : List.of(cleared, unlinked)) {
            dueBytes("first block", freed, 39, 0, 1024, k -> pattern(k));
            dueBytes("last block", freed, 53, 0, 1024, k -> pattern(13312 + k));
            due("number 12", 52, freed.get().number(51, 0));
            due("number 13", 53, freed.get().number(51, 4));
            due("all are free", 473, freed.get().free());
        }
    }

    @Sentence(in = "Terms", says = "A DIRECTORY's bytes are ENTRIES of 16: an inode's number (2 bytes, 0: free), a NAME of"
            + " up to 14 bytes, then bytes 0; one that becomes free is 16 bytes 0.")
    private static void entriesOf16() {
        Tree t = new Tree();
        t.create("a", FILE);
        t.create("abcdefghijklm", FILE);
        t.create("ABCDEFGHIJKLMN", FILE);
        t.create("0123456789abcdXY", FILE);
        due("size", 6 * 16, t.about(1, 4));
        due("1 byte", "2 a_____________", t.entry(38, 32));
        due("13 bytes", "3 abcdefghijklm_", t.entry(38, 48));
        due("14 bytes", "4 ABCDEFGHIJKLMN", t.entry(38, 64));
        due("16 bytes", "5 0123456789abcd", t.entry(38, 80));
        due("none behind", "0 ______________", t.entry(38, 96));
    }

    @Sentence(in = "Terms", says = "A DIRECTORY's bytes are ENTRIES of 16: an inode's number (2 bytes, 0: free), a NAME of"
            + " up to 14 bytes, then bytes 0; one that becomes free is 16 bytes 0.")
    private static void freeEntryIs16Bytes0() {
        Tree t = new Tree();
        t.create("abcdefghijklmn", FILE);
        t.create("ABCDEFGHIJKLMN", DEVICE);
        t.create("n", FILE);
        due("unlink", 3, t.unlink(1, "ABCDEFGHIJKLMN"));
        due("before it", "2 abcdefghijklmn", t.entry(38, 32));
        due("the free one", "0 ______________", t.entry(38, 48));
        due("behind it", "4 n_____________", t.entry(38, 64));
        due("the last one", 4, t.unlink(1, "n"));
        due("the free one", "0 ______________", t.entry(38, 64));
        due("the size stays", 5 * 16, t.about(1, 4));
        due("a short name over a long one", 3, t.create("k", FILE));
        due("the new one", "3 k_____________", t.entry(38, 48));
    }

    @Sentence(in = "Terms", says = "Its first two are . (itself) and .. (the one that it stands in; the ROOT, inode 1, in"
            + " itself).")
    private static void firstTwoEntries() {
        Tree t = new Tree();
        t.create("d", DIRECTORY);
        t.create("d/e", DIRECTORY);
        due("the root's .", "1 ._____________", t.entry(38, 0));
        due("the root's ..", "1 ..____________", t.entry(38, 16));
        due("d's .", "2 ._____________", t.entry(39, 0));
        due("d's ..", "1 ..____________", t.entry(39, 16));
        due("e's .", "3 ._____________", t.entry(40, 0));
        due("e's ..", "2 ..____________", t.entry(40, 16));
        due("above the root", 1, t.find(1, ".."));
        due("far above the root", 1, t.find(3, "../../../../.."));
    }

    @Sentence(in = "Terms", says = "LINKS: how many entries name an inode, but not a directory's own . (so a directory's"
            + " are one, and one for each .. of those that stand in it); the root has one more.")
    private static void linksOfDirectories() {
        Tree t = new Tree();
        due("the root alone", 2, t.about(1, 3));
        t.create("d", DIRECTORY);
        due("d alone", 1, t.about(2, 3));
        due("the root with d", 3, t.about(1, 3));
        t.create("d/e", DIRECTORY);
        t.create("d/g", DIRECTORY);
        t.create("d/f", FILE);
        t.create("d/v", DEVICE);
        due("d with two", 3, t.about(2, 3));
        due("the root still", 3, t.about(1, 3));
        t.unlink(1, "d/e");
        due("d with one", 2, t.about(2, 3));
        t.unlink(1, "d/g");
        due("d alone again", 1, t.about(2, 3));
    }

    @Sentence(in = "Terms", says = "LINKS: how many entries name an inode, but not a directory's own . (so a directory's"
            + " are one, and one for each .. of those that stand in it); the root has one more.")
    private static void mostLinksOfTheRoot() {
        Tree t = new Tree();
        for (int i = 2; i < 64; i++) {
            due("create", i, t.create("d" + i, DIRECTORY));
        }
        due("62 directories", 64, t.about(1, 3));
        for (int i = 2; i < 64; i++) {
            due("unlink", i, t.unlink(1, "d" + i));
        }
        due("none", 2, t.about(1, 3));
    }

    @Sentence(in = "Terms", says = "LINKS: how many entries name an inode, but not a directory's own . (so a directory's"
            + " are one, and one for each .. of those that stand in it); the root has one more.")
    private static void linksOfFiles() {
        Tree t = new Tree();
        t.create("f", FILE);
        due("one", 1, t.about(2, 3));
        t.link(1, "f g");
        due("two", 2, t.about(2, 3));
        t.unlink(1, "f");
        due("one", 1, t.about(2, 3));
        t.hold(2);
        t.unlink(1, "g");
        due("none, but held", 0, t.about(2, 3));
        t.link(2, " /h");
        due("one again", 1, t.about(2, 3));
    }

    private static final String PATH = "A PATH is a row of bytes 1 .. 255 without blanks (32), at most 128; names between one"
            + " or more / (47), of which only the first 14 bytes count.";

    @Sentence(in = "Terms", says = PATH)
    private static void pathOfEachByte() {
        for (int b = 1; b < 256; b++) {
            Tree t = new Tree();
            String path = "n" + (char) b;
            int answer = b == ' ' ? NONE : 2;
            due("create with byte " + b, answer, t.create(path, FILE));
            due("find with byte " + b, answer, t.find(1, path));
            due("byte " + b + " in the name", b == ' ' || b == '/' ? 0 : b, t.peek(38, 35));
            due("find without byte " + b, b == '/' ? 2 : NONE, t.find(1, "n"));
            due("find with byte " + (b ^ 128), NONE, t.find(1, "n" + (char) (b ^ 128)));
        }
    }

    @Sentence(in = "Terms", says = PATH)
    private static void pathWithBlank() {
        Tree t = new Tree();
        t.create("a", DIRECTORY);
        t.create("a/b", FILE);
        String[] paths = {" ", " a", "a ", "a /b", "a/ b", "a/b ", "/ ", " /", "a b", "  "};
        for (String path : paths) {
            due("find '" + path + "'", NONE, t.find(1, path));
            due("create '" + path + "'", NONE, t.create(path + "n", FILE));
            due("unlink '" + path + "'", NONE, t.unlink(1, path));
        }
        due("nothing came", 0, t.about(4, 0));
        due("nothing went", 3, t.find(1, "a/b"));
    }

    @Sentence(in = "Terms", says = PATH)
    private static void pathOf128() {
        Tree t = new Tree();
        t.create("a", FILE);
        String to127 = "/".repeat(127);
        due("find 127", 2, t.find(1, to127.substring(1) + "a"));
        due("find 128", 2, t.find(1, to127 + "a"));
        due("find 128 slashes", 1, t.find(1, to127 + "/"));
        due("create 128", 3, t.create(to127 + "b", FILE));
        due("link 128 and 128", 2, t.link(1, to127 + "a " + to127 + "c"));
        due("unlink 128", 3, t.unlink(1, to127 + "b"));
        due("a name of 128", 3, t.create("n".repeat(128), FILE));
        due("its entry", "3 nnnnnnnnnnnnnn", t.entry(38, 48));
    }

    @Sentence(in = "Terms", says = PATH)
    private static void pathOf129() {
        Tree t = new Tree();
        t.create("a", FILE);
        String to127 = "/".repeat(127);
        due("find 129", NONE, t.find(1, to127 + "/a"));
        due("find 129 slashes", NONE, t.find(1, to127 + "//"));
        due("find 129, slashes behind", NONE, t.find(1, "a/" + to127));
        due("find 260", NONE, t.find(1, "/".repeat(259) + "a"));
        due("create 129", NONE, t.create(to127 + "/b", FILE));
        due("link 129 and 1", NONE, t.link(1, to127 + "/a b"));
        due("link 1 and 129", NONE, t.link(1, "a " + to127 + "/b"));
        due("unlink 129", NONE, t.unlink(1, to127 + "/a"));
        due("a name of 129", NONE, t.create("n".repeat(129), FILE));
        due("nothing came", 0, t.about(3, 0));
        due("nothing went", 1, t.about(2, 3));
    }

    @Sentence(in = "Terms", says = PATH)
    private static void slashesBetweenNames() {
        Tree t = new Tree();
        t.create("a", DIRECTORY);
        t.create("a/b", DIRECTORY);
        t.create("a/b/f", FILE);
        String[] paths = {"a/b/f", "/a/b/f", "a//b/f", "a/b///f", "//a/b/f", "a/b/f/", "a/b/f///", "///a///b///f///"};
        for (String path : paths) {
            due(path, 4, t.find(1, path));
        }
        due("no slash between", NONE, t.find(1, "ab/f"));
        due("a directory with slashes behind", 3, t.find(1, "a/b//"));
        due("create with slashes behind", 5, t.create("a//g//", FILE));
        due("its entry", 5, t.find(2, "g"));
        due("link with slashes behind", 5, t.link(1, "a/g/ //h//"));
        due("unlink with slashes behind", 5, t.unlink(1, "//a//g//"));
    }

    @Sentence(in = "Terms", says = PATH)
    private static void first14BytesOfNames() {
        Tree t = new Tree();
        due("13", 2, t.create("abcdefghijklm", FILE));
        due("14", 3, t.create("abcdefghijklmn", DIRECTORY));
        due("find 12", NONE, t.find(1, "abcdefghijkl"));
        due("find 13", 2, t.find(1, "abcdefghijklm"));
        due("find 14", 3, t.find(1, "abcdefghijklmn"));
        due("find 15", 3, t.find(1, "abcdefghijklmno"));
        due("another byte 14", NONE, t.find(1, "abcdefghijklmN"));
        due("create below 15", 4, t.create("abcdefghijklmnX/f", FILE));
        due("find below 16", 4, t.find(1, "abcdefghijklmnYZ//f"));
        due("15 is there", NONE, t.create("abcdefghijklmnX", FILE));
        due("link to 15 is there", NONE, t.link(1, "abcdefghijklm abcdefghijklmnX"));
        due("unlink below 15", 4, t.unlink(1, "abcdefghijklmnZ/f"));
        due("unlink 20", 3, t.unlink(1, "abcdefghijklmnopqrst"));
        due("13 stays", 2, t.find(1, "abcdefghijklm"));
    }

    private static final String LEADS = "It leads from inode 1, if it begins with /, else from an inode that is told, by each"
            + " name in order to the inode of the first entry with that name; no path leads on from what is no directory.";

    @Sentence(in = "Terms", says = LEADS)
    private static void whereAPathBegins() {
        Tree t = new Tree();
        t.create("a", DIRECTORY);
        t.create("a/b", DIRECTORY);
        t.create("b", DIRECTORY);
        t.create("b/a", FILE);
        due("/b", 4, t.find(2, "/b"));
        due("b", 3, t.find(2, "b"));
        due("/b from b", 4, t.find(4, "/b"));
        due("b from b", NONE, t.find(4, "b"));
        due("a, then b", 3, t.find(1, "a/b"));
        due("b, then a", 5, t.find(1, "b/a"));
        due("from a file, with /", 3, t.find(5, "/a/b"));
        due("create with /", 6, t.create(4, "/n", FILE));
        due("it stands in the root", 6, t.find(1, "n"));
        due("create without", 7, t.create(4, "n", FILE));
        due("it stands in b", 7, t.find(1, "b/n"));
        due("link, one with /", 6, t.link(3, "/n m"));
        due("it stands in a/b", 6, t.find(1, "a/b/m"));
        due("link, the other with /", 6, t.link(3, "m /o"));
        due("it stands in the root", 6, t.find(1, "o"));
        due("unlink with /", 6, t.unlink(4, "/n"));
        due("unlink without", 7, t.unlink(4, "n"));
    }

    @Sentence(in = "Terms", says = LEADS, unreached = "two entries with one name, of which the first would count: create and"
            + " link refuse a name that is there")
    private static void firstEntryWithTheName() {
        Tree t = new Tree();
        t.create("a", FILE);
        t.create("b", FILE);
        t.create("c", FILE);
        due("there already", NONE, t.link(1, "b c"));
        due("there already", 4, t.create("c", FILE));
        due("c goes", 4, t.unlink(1, "c"));
        due("a goes", 2, t.unlink(1, "a"));
        due("c is b in a's entry", 3, t.link(1, "b c"));
        due("leads to b", 3, t.find(1, "c"));
        due("its entry", "3 c_____________", t.entry(38, 32));
    }

    @Sentence(in = "Terms", says = LEADS)
    private static void noPathLeadsOnFromNoDirectory() {
        Tree t = new Tree();
        t.create("f", FILE);
        t.create("v", DEVICE);
        t.save(2, 0, 64);
        for (String name : new String[] {"f", "v"}) {
            due(name, name.equals("f") ? 2 : 3, t.find(1, name));
            due(name + "/.", NONE, t.find(1, name + "/."));
            due(name + "/..", NONE, t.find(1, name + "/.."));
            due(name + "/../f", NONE, t.find(1, name + "/../f"));
            due(name + "/x", NONE, t.find(1, name + "/x"));
            due("create", NONE, t.create(name + "/x", FILE));
            due("unlink", NONE, t.unlink(1, name + "/x"));
            due("link", NONE, t.link(1, "f " + name + "/x"));
        }
        due("from a file", NONE, t.find(2, "."));
        due("from a device", NONE, t.find(3, ".."));
        due("create from a file", NONE, t.create(2, "x", FILE));
    }

    /** A file may have the bytes of an entry; no path leads by them. */
    @Sentence(in = "Terms", says = LEADS)
    private static void noPathLeadsByAFilesBytes() {
        Tree t = new Tree();
        t.create("d", DIRECTORY);
        t.create("d/x", FILE);
        t.create("f", FILE);
        due("d's bytes", 48, t.read(2, 0, 3072));
        due("in a file", 48, t.save(4, 0, 48));
        due("d/x", 3, t.find(1, "d/x"));
        for (String name : new String[] {"x", ".", ".."}) {
            due("f/" + name, NONE, t.find(1, "f/" + name));
            due(name + " from f", NONE, t.find(4, name));
            due("create f/" + name, NONE, t.create("f/" + name, FILE));
        }
        due("unlink f/x", NONE, t.unlink(1, "f/x"));
        due("x's links", 1, t.about(3, 3));
    }

    @Sentence(in = "Terms", says = "One without names leads to where it begins.")
    private static void pathWithoutNames() {
        Tree t = new Tree();
        t.create("d", DIRECTORY);
        t.create("f", FILE);
        t.create("v", DEVICE);
        for (int from = 1; from < 5; from++) {
            due("nothing from " + from, from, t.find(from));
            due("/ from " + from, 1, t.find(from, "/"));
            due("// from " + from, 1, t.find(from, "//"));
        }
        t.hold(2);
        t.unlink(1, "d");
        due("nothing from one without links", 2, t.find(2));
        due("/ from one without links", 1, t.find(2, "/"));
    }

    @Sentence(in = "Terms", says = "HELD an inode can be, any number of times.", unreached = "a number that is too great:"
            + " none is named, and 512 calls hold an inode no more than 512 times")
    private static void heldManyTimes() {
        Tree t = new Tree();
        t.create("f", FILE);
        for (int i = 0; i < 250; i++) {
            due("hold", true, t.hold(2));
        }
        due("held", 250, t.about(2, 5));
        due("unlink", 2, t.unlink(1, "f"));
        for (int i = 0; i < 249; i++) {
            due("leave", true, t.leave(2));
        }
        due("still held", 1, t.about(2, 5));
        due("still a file", 2, t.about(2, 0));
        due("the last one leaves", true, t.leave(2));
        due("free", 0, t.about(2, 0));
    }

    private static final String FREE = "One that has no links and is not held is FREE: its blocks are free, its kind and"
            + " size 0 (and all else of it).";

    private static Tree withBigFile() {
        Tree t = new Tree();
        t.text("f");
        t.create(1, FILE, 0x7777, 0x8888);
        t.fill(0, 3072, 1);
        t.grow(2, 0, 20 * 1024);
        t.hold(2);
        t.hold(2);
        return t;
    }

    private static void dueFree(Tree t, int inode) {
        dueAbout("free inode", t, inode, 0, 0, 0, 0, 0, 0);
        for (int k = 0; k < 64; k++) {
            due("free inode's byte " + k, 0, t.peek(33 + inode / 16, inode % 16 * 64 + k));
        }
        due("free blocks", 473, t.free());
        due("the map", 127, t.peek(37, 4));
        due("the map", 0, t.peek(37, 5));
        due("the map", 0, t.peek(37, 7));
    }

    @Sentence(in = "Terms", says = FREE)
    private static void freeByUnlink() {
        Tree t = withBigFile();
        t.leave(2);
        t.leave(2);
        dueAbout("not held, one link", t, 2, 2, 0x7777, 0x8888, 1, 20480, 0);
        due("unlink", 2, t.unlink(1, "f"));
        dueFree(t, 2);
    }

    @Sentence(in = "Terms", says = FREE)
    private static void freeByLeave() {
        Tree t = withBigFile();
        due("unlink", 2, t.unlink(1, "f"));
        due("leave", true, t.leave(2));
        dueAbout("held once, no link", t, 2, 2, 0x7777, 0x8888, 0, 20480, 1);
        due("its blocks", 473 - 21, t.free());
        due("leave", true, t.leave(2));
        dueFree(t, 2);
    }

    @Sentence(in = "Terms", says = FREE)
    private static void freeByForget() {
        Tree t = withBigFile();
        due("unlink", 2, t.unlink(1, "f"));
        due("forget", 1, t.forget());
        dueFree(t, 2);
    }

    @Sentence(in = "Terms", says = FREE)
    private static void freeDeviceAndDirectory() {
        Tree t = new Tree();
        t.text("v");
        t.create(1, DEVICE, 5, 6);
        due("device", 2, t.unlink(1, "v"));
        dueFree(t, 2);
        t.text("d");
        t.create(1, DIRECTORY, 5, 6);
        due("directory", 2, t.unlink(1, "d"));
        dueFree(t, 2);
        due("not from it", NONE, t.find(2));
    }

    private static final String NEEDS = "WHAT A DIRECTORY NEEDS for one entry more: nothing, if one of its entries is free (the"
            + " first such one is taken), else a block if its SIZE is divided by 1,024, and one more if it is 12,288; it can't"
            + " have more than 274,432 bytes, and none if it has no LINKS.";

    @Sentence(in = "Terms", says = NEEDS)
    private static void firstFreeEntryIsTaken() {
        Tree t = new Tree();
        t.create("x", FILE);
        addLinks(t, 4);
        t.unlink(1, "l2");
        t.unlink(1, "l0");
        due("size", 112, t.about(1, 4));
        due("a link", 2, t.link(1, "x a"));
        due("in the first", "2 a_____________", t.entry(38, 48));
        due("a directory", 3, t.create("b", DIRECTORY));
        due("in the next", "3 b_____________", t.entry(38, 80));
        due("size stays", 112, t.about(1, 4));
        due("a file", 4, t.create("c", FILE));
        due("behind all", "4 c_____________", t.entry(38, 112));
        due("size", 128, t.about(1, 4));
    }

    @Sentence(in = "Terms", says = NEEDS)
    private static void freeEntryNeedsNoBlock() {
        Tree t = filledRoot(0);
        due("none free", NONE, t.link(1, "x a"));
        due("one goes", 2, t.unlink(1, "l58"));
        due("the last of the block", 2, t.link(1, "x a"));
        due("its entry", "2 a_____________", t.entry(38, 1008));
        due("one goes", 2, t.unlink(1, "l0"));
        due("a file there", 5, t.create("b", FILE));
        due("one goes", 2, t.unlink(1, "l1"));
        due("a device there", 6, t.create("c", DEVICE));
        due("size stays", 1024, t.about(1, 4));
        due("no block", 0, t.free());
    }

    /** A free entry in the first block is taken though the second one has room behind its last. */
    @Sentence(in = "Terms", says = NEEDS)
    private static void freeEntryBeforeRoomBehind() {
        Tree t = new Tree();
        t.create("x", FILE);
        addLinks(t, 64);
        due("size", 67 * 16, t.about(1, 4));
        due("one goes", 2, t.unlink(1, "l63"));
        due("another one", 2, t.unlink(1, "l5"));
        due("a link", 2, t.link(1, "x a"));
        due("in the first block", "2 a_____________", t.entry(38, 8 * 16));
        due("a link", 2, t.link(1, "x b"));
        due("in the second", "2 b_____________", t.entry(39, 2 * 16));
        due("size stays", 67 * 16, t.about(1, 4));
    }

    /** 256 entries more, each by a write and a link, are the most that 512 calls can make. */
    @Sentence(in = "Terms", says = NEEDS, unreached = "12,288 and 274,432 bytes of a directory: an entry takes two calls, so"
            + " in 512 calls no directory comes to more than 258 entries, 4,128 bytes; tried behind the 512th below")
    private static void mostEntriesOf512Calls() {
        Tree t = new Tree();
        t.create("x", FILE);
        for (int i = 0; i < 253; i++) {
            due("link", 2, t.link(1, "x " + i));
        }
        due("256 entries in four blocks", 470, t.free());
        due("one more", 2, t.link(1, "x n"));
        due("the fifth block", 469, t.free());
    }

    @Sentence(in = "Terms", says = NEEDS)
    private static void blockForEntry65() {
        Tree t = new Tree();
        t.create("x", FILE);
        addLinks(t, 60);
        due("63 entries", 1008, t.about(1, 4));
        due("one block", 473, t.free());
        t.link(1, "x a");
        due("64 entries", 1024, t.about(1, 4));
        due("one block", 473, t.free());
        due("no second one", 0, t.inodeNumber(1, 1));
        t.link(1, "x b");
        due("65 entries", 1040, t.about(1, 4));
        due("two blocks", 472, t.free());
        due("the second one", 39, t.inodeNumber(1, 1));
        due("its entry", "2 b_____________", t.entry(39, 0));
        due("found", 2, t.find(1, "b"));
    }

    /** Behind the 512th call nothing is promised; the same words are to hold there all the same. */
    @Sentence(in = "Terms", says = NEEDS)
    private static void directoryBeyond12Blocks() {
        Tree t = new Tree(Tree.ANY_NUMBER);
        t.create("d", DIRECTORY);
        t.create("d/x", FILE);
        for (int i = 3; i < 768; i++) {
            due("link", 3, t.link(2, "x l" + i));
        }
        due("12 blocks", 12288, t.about(2, 4));
        due("12 blocks", 473 - 12, t.free());
        due("the number of more", 0, t.inodeNumber(2, 12));
        due("one more", 3, t.link(2, "x more"));
        due("two blocks", 473 - 14, t.free());
        due("that of numbers first", t.inodeNumber(2, 12) + 1, t.number(t.inodeNumber(2, 12), 0));
        for (int i = 769; i < 17152; i++) {
            due("link", 3, t.link(2, "x m" + i));
        }
        due("all that it can have", 274432, t.about(2, 4));
        due("no link", NONE, t.link(2, "x again"));
        due("no file", NONE, t.create("d/again", FILE));
        due("no directory", NONE, t.create("d/again", DIRECTORY));
        due("one goes", 3, t.unlink(1, "d/m17151"));
        due("its entry is taken", 3, t.link(2, "x again"));
        due("size", 274432, t.about(2, 4));
    }

    /** Behind the 512th call: at 12,288 bytes one free block is not enough, and is not taken. */
    @Sentence(in = "Terms", says = NEEDS)
    private static void directoryAt12BlocksNeedsTwo() {
        for (int left = 0; left < 3; left++) {
            Tree t = new Tree(Tree.ANY_NUMBER);
            t.create("x", FILE);
            for (int i = 3; i < 766; i++) {
                due("link", 2, t.link(1, "x l" + i));
            }
            t.create("A", FILE);
            t.create("B", FILE);
            due("size", 12288, t.about(1, 4));
            t.grow(3, 0, 274432);
            t.grow(4, 0, (473 - 11 - 269 - 1 - left) * 1024);
            due("left", left, t.free());
            due("a directory", NONE, t.create("n", DIRECTORY));
            due("a link", left == 2 ? 2 : NONE, t.link(1, "x n"));
            due("left", left == 2 ? 0 : left, t.free());
            due("size", left == 2 ? 12304 : 12288, t.about(1, 4));
        }
    }

    @Sentence(in = "Terms", says = NEEDS)
    private static void noEntryWithoutLinks() {
        Tree t = new Tree();
        t.create("d", DIRECTORY);
        t.create("f", FILE);
        t.hold(2);
        due("unlink", 2, t.unlink(1, "d"));
        due("links", 0, t.about(2, 3));
        for (int kind = 1; kind < 4; kind++) {
            due("create", NONE, t.create(2, "n", kind));
            due("create .", NONE, t.create(2, ".", kind));
        }
        due("link", NONE, t.link(2, "/f n"));
        due("size stays", 32, t.about(2, 4));
        due("its block", "0 ______________", t.entry(39, 0));
        due("f's links", 1, t.about(3, 3));
        due("no inode", 0, t.about(4, 0));
        due("free", 472, t.free());
    }

    @Sentence(in = "Terms", says = "If that is not there, no call makes it.")
    private static void entryThatIsNotMade() {
        Tree t = filledRoot(0);
        due("file", NONE, t.create("n", FILE));
        due("device", NONE, t.create("n", DEVICE));
        due("directory", NONE, t.create("n", DIRECTORY));
        due("link", NONE, t.link(1, "x n"));
        due("not there", NONE, t.find(1, "n"));
        due("root's size", 1024, t.about(1, 4));
        due("root's links", 2, t.about(1, 3));
        due("root's second block", 0, t.inodeNumber(1, 1));
        due("x's links", 60, t.about(2, 3));
        dueAbout("no inode", t, 5, 0, 0, 0, 0, 0, 0);
        due("free", 0, t.free());
    }

    @Sentence(in = "Terms", says = "If that is not there, no call makes it.")
    private static void directoryThatIsNotMade() {
        Tree t = filledRoot(1);
        due("it needs two", NONE, t.create("n", DIRECTORY));
        due("none is taken", 1, t.free());
        due("root's size", 1024, t.about(1, 4));
        due("root's links", 2, t.about(1, 3));
        dueAbout("no inode", t, 5, 0, 0, 0, 0, 0, 0);
        due("the map", 127, t.peek(37, 63));
        due("a file needs one", 5, t.create("n", FILE));
        due("it is taken", 0, t.free());
        due("root's size", 1040, t.about(1, 4));
    }

    @Sentence(in = "Terms", says = "The constants: `NONE = -1`: Nothing there.")
    private static void constantNone() {
        due("NONE", -1, FileTree.NONE);
    }

    // ---- Promise 1: A new object

    @Sentence(in = "Promise 1", says = "A new tree: the root alone, with its two entries, LINKS 1 more than it has; blocks 0"
            + " to 38 are used, all others free.")
    private static void newTree() {
        Tree t = new Tree();
        dueAbout("root", t, 1, 1, 0, 0, 2, 32, 0);
        for (int inode = 0; inode < 64; inode++) {
            if (inode != 1) {
                dueAbout("inode " + inode, t, inode, 0, 0, 0, 0, 0, 0);
            }
        }
        due("free", 473, t.free());
        due("block 38 is used, 39 free", 0x7F, t.peek(37, 4));
        due("the root's first entry", "1 ._____________", t.entry(38, 0));
        due("the root's second entry", "1 ..____________", t.entry(38, 16));
        due("the root's block", 38, t.inodeNumber(1, 0));
    }

    @Sentence(in = "Promise 1", says = "A new tree: the root alone, with its two entries, LINKS 1 more than it has; blocks 0"
            + " to 38 are used, all others free.")
    private static void newTreesOtherBytes() {
        for (int b = 0; b < 512; b++) {
            int first = b == 1 ? 32 : b == 33 ? 128 : b == 37 ? 5 : b == 38 ? 32 : 0;
            dueBytes("new", Tree::new, b, first, 1024, k -> 0);
        }
        dueBytes("inode 0", Tree::new, 33, 0, 64, k -> 0);
        dueBytes("root", Tree::new, 33, 64, 128, k -> k == 64 ? 1 : k == 70 ? 2 : k == 72 ? 32 : k == 76 ? 38 : 0);
    }

    @Sentence(in = "Promise 1", says = "The text is empty, the buffer's 3,072 bytes are 0.")
    private static void newTextAndBuffer() {
        due("no text", 1, new Tree().find(1));
        due("no name", NONE, new Tree().create(1, FILE, 0, 0));
        Tree t = new Tree();
        for (int i = 0; i < 260; i++) {
            due("room for all 260", true, t.write(0x61));
        }
        due("and no more", false, t.write(0x61));
        dueBuffer("new", Tree::new, 0, 3072, k -> 0);
        due("no byte more", NONE, new Tree().at(3072));
    }

    // ---- Promise 2: write

    private static final String WRITE = "Appends up to eight bytes to the text, those of w from the highest on that are not 0:"
            + " true; false, changing nothing, if there is no room: it has at most 260.";

    @Sentence(in = "Promise 2", says = WRITE)
    private static void writeUpToEight() {
        Tree t = new Tree();
        due("eight", true, t.write(0x6162636465666768L));
        due("create", 2, t.create(1, FILE, 0, 0));
        due("its entry", "2 abcdefgh______", t.entry(38, 32));
        due("one", true, t.write(0x41));
        due("eight", true, t.write(0x4243444546474849L));
        due("create", 3, t.create(1, FILE, 0, 0));
        due("its entry", "3 ABCDEFGHI_____", t.entry(38, 48));
    }

    @Sentence(in = "Promise 2", says = WRITE)
    private static void writeLeavesOut0() {
        Tree t = new Tree();
        due("none", true, t.write(0));
        due("none came", 1, t.find(1));
        for (int i = 0; i < 8; i++) {
            due("one at " + i, true, t.write((long) ('a' + i) << 8 * i));
        }
        due("create", 2, t.create(1, FILE, 0, 0));
        due("in the order of calls", "2 abcdefgh______", t.entry(38, 32));
        due("0 between", true, t.write(0x4100420043004400L));
        due("0 before and behind", true, t.write(0x0000454600000000L));
        due("create", 3, t.create(1, FILE, 0, 0));
        due("left out", "3 ABCDEF________", t.entry(38, 48));
    }

    @Sentence(in = "Promise 2", says = WRITE)
    private static void writeBytesAbove127() {
        Tree t = new Tree();
        due("the least long", true, t.write(Long.MIN_VALUE));
        due("-1", true, t.write(-1L));
        due("the greatest long", true, t.write(Long.MAX_VALUE));
        due("create", 2, t.create(1, FILE, 0, 0));
        due("byte 128", 128, t.peek(38, 34));
        for (int k = 35; k < 43; k++) {
            due("byte 255", 255, t.peek(38, k));
        }
        due("byte 127", 127, t.peek(38, 43));
        due("byte 255", 255, t.peek(38, 44));
    }

    @Sentence(in = "Promise 2", says = WRITE)
    private static void writeUpTo260() {
        for (int length = 252; length <= 260; length++) {
            for (int more = 0; more <= 8; more++) {
                Tree t = new Tree();
                t.text("a".repeat(length));
                long w = more == 0 ? 0 : -1L << 64 - 8 * more;
                due(more + " behind " + length, length + more <= 260, t.write(w));
                int now = length + more <= 260 ? length + more : length;
                for (int i = now; i < 260; i++) {
                    due("one behind " + i, true, t.write(0x61));
                }
                due("one behind 260", false, t.write(0x6100L));
                due("none behind 260", true, t.write(0));
            }
        }
    }

    /** A text of 253 bytes can still be two paths, so that one sees what a refused call left. */
    @Sentence(in = "Promise 2", says = WRITE)
    private static void refusedWriteChangesNothing() {
        Tree t = new Tree();
        t.create("f", FILE);
        t.text("/".repeat(123) + "f " + "/".repeat(127) + "g");
        due("8 behind 253", false, t.write(0x7878787878787878L));
        due("link", 2, t.link(1));
        due("it came", 2, t.find(1, "g"));
        t.text("/".repeat(127) + "f " + "/".repeat(127) + "h");
        due("4 behind 257", false, t.write(0x78787878L));
        due("8 behind 257", false, t.write(-1L));
        due("0 behind 257", true, t.write(0));
        due("link", 2, t.link(1));
        due("it came", 2, t.find(1, "h"));
    }

    // ---- Promise 3: find

    @Sentence(in = "Promise 3", says = "Where the text, a path, leads to from an inode: its number.")
    private static void findFirstAndLastInode() {
        Tree t = new Tree();
        for (int i = 2; i < 64; i++) {
            due("create", i, t.create("f" + i, FILE));
        }
        due("the root", 1, t.find(1, "."));
        due("the first", 2, t.find(1, "f2"));
        due("the last", 63, t.find(1, "f63"));
        due("from the last", 63, t.find(63, ""));
        due("from the last to the root", 1, t.find(63, "/"));
    }

    private static final String FIND_NONE = "NONE if it leads nowhere, is no path, or from is none in use.";

    @Sentence(in = "Promise 3", says = FIND_NONE)
    private static void findNowhere() {
        Tree t = new Tree();
        t.create("d", DIRECTORY);
        t.create("d/f", FILE);
        String[] nowhere = {"n", "/n", "d/n", "D", "dd", "d.", "f", "d/f/n", "d/f/.", "n/d", "n/../d", "...", "d/..."};
        for (String path : nowhere) {
            due(path, NONE, t.find(1, path));
        }
        t.unlink(1, "d/f");
        due("what is gone", NONE, t.find(1, "d/f"));
        due("a free entry has no name", 2, t.find(1, "d/"));
    }

    @Sentence(in = "Promise 3", says = FIND_NONE)
    private static void findNoPath() {
        Tree t = new Tree();
        due("a blank", NONE, t.find(1, " "));
        due("a blank behind", NONE, t.find(1, "/ "));
        due("a blank before", NONE, t.find(1, " ."));
        due("two paths", NONE, t.find(1, ". ."));
        due("128 bytes", 1, t.find(1, "./".repeat(64)));
        due("129 bytes", NONE, t.find(1, "./".repeat(64) + "."));
        due("260 bytes", NONE, t.find(1, "./".repeat(130)));
    }

    @Sentence(in = "Promise 3", says = FIND_NONE)
    private static void findFromNoneInUse() {
        Tree t = new Tree();
        t.create("d", DIRECTORY);
        t.create("d/f", FILE);
        t.create("g", FILE);
        t.unlink(1, "g");
        int[] none = {0, 4, 5, 62, 63};
        for (int from : none) {
            due("nothing from " + from, NONE, t.find(from));
            due("/ from " + from, NONE, t.find(from, "/"));
            due("/d from " + from, NONE, t.find(from, "/d"));
            due("d from " + from, NONE, t.find(from, "d"));
        }
        for (int from : NO_INODES) {
            due("nothing from " + from, NONE, t.find(from));
            due("/ from " + from, NONE, t.find(from, "/"));
            due("/d from " + from, NONE, t.find(from, "/d"));
            due("d from " + from, NONE, t.find(from, "d"));
        }
    }

    /** Promises 4 to 6 do not say it of from again; they take their paths from one as find does. */
    @Sentence(in = "Promise 3", says = FIND_NONE)
    private static void othersFromNoneInUse() {
        Tree t = new Tree();
        t.create("f", FILE);
        for (int from : new int[] {MIN, -1, 0, 3, 63, 64, MAX}) {
            due("create from " + from, NONE, t.create(from, "n", FILE));
            due("create / from " + from, NONE, t.create(from, "/n", FILE));
            due("link from " + from, NONE, t.link(from, "f n"));
            due("link / from " + from, NONE, t.link(from, "/f /n"));
            due("unlink from " + from, NONE, t.unlink(from, "f"));
            due("unlink / from " + from, NONE, t.unlink(from, "/f"));
        }
        due("nothing came", 48, t.about(1, 4));
        due("nothing went", 1, t.about(2, 3));
    }

    private static final String TEXT_EMPTY = "The text is empty then, as behind all calls that take it.";

    private static void dueEmptyText(String what, Tree t) {
        due(what + ": text is empty", 1, t.find(1));
    }

    @Sentence(in = "Promise 3", says = TEXT_EMPTY)
    private static void textIsEmptyBehindAnswers() {
        Tree t = new Tree();
        due("create", 2, t.create("f", FILE));
        dueEmptyText("create", t);
        due("create again", 2, t.create("f", FILE));
        dueEmptyText("create again", t);
        due("find", 2, t.find(1, "f"));
        dueEmptyText("find", t);
        due("link", 2, t.link(1, "f g"));
        dueEmptyText("link", t);
        due("unlink", 2, t.unlink(1, "g"));
        dueEmptyText("unlink", t);
    }

    @Sentence(in = "Promise 3", says = TEXT_EMPTY)
    private static void textIsEmptyBehindNone() {
        Tree t = new Tree();
        t.create("f", FILE);
        due("find nowhere", NONE, t.find(1, "n"));
        dueEmptyText("find nowhere", t);
        due("find no path", NONE, t.find(1, "a b"));
        dueEmptyText("find no path", t);
        due("find from none", NONE, t.find(0, "f"));
        dueEmptyText("find from none", t);
        due("create of a kind 0", NONE, t.create("n", 0));
        dueEmptyText("create of a kind 0", t);
        due("create from none", NONE, t.create(99, "n", FILE));
        dueEmptyText("create from none", t);
        due("create without a directory", NONE, t.create("n/n", FILE));
        dueEmptyText("create without a directory", t);
        due("create of what is there", NONE, t.create("f", DEVICE));
        dueEmptyText("create of what is there", t);
        due("link of one path", NONE, t.link(1, "f"));
        dueEmptyText("link of one path", t);
        due("link of what is there", NONE, t.link(1, "f f"));
        dueEmptyText("link of what is there", t);
        due("link from none", NONE, t.link(-5, "f n"));
        dueEmptyText("link from none", t);
        due("unlink nowhere", NONE, t.unlink(1, "n"));
        dueEmptyText("unlink nowhere", t);
        due("unlink of a dot", NONE, t.unlink(1, "."));
        dueEmptyText("unlink of a dot", t);
        due("unlink from none", NONE, t.unlink(64, "f"));
        dueEmptyText("unlink from none", t);
        due("find of 260", NONE, t.find(1, "a".repeat(260)));
        t.text("f".repeat(252));
        due("room for 8 again", true, t.write(0x2F2F2F2F2F2F2F2FL));
        due("and for no more", false, t.write(0x2F));
    }

    /** Calls that do not take the text leave it. */
    @Sentence(in = "Promise 3", says = TEXT_EMPTY)
    private static void textStaysBehindOthers() {
        Tree t = new Tree();
        t.create("f", FILE);
        t.text("/");
        t.hold(2);
        t.leave(2);
        t.leave(2);
        t.save(2, 0, 10);
        t.read(2, 0, 10);
        t.clear(2);
        t.about(2, 0);
        t.free();
        t.forget();
        t.fill(0, 10, 0);
        t.at(0);
        t.peek(0, 0);
        t.text("f");
        due("find", 2, t.find(1));
    }

    // ---- Promise 4: create

    private static final String CREATE = "The text, a path: its last name comes into the directory to which the names before it"
            + " lead: a new inode, the least that is free (from 1 on), of a kind 1 .. 3, with MAJOR, MINOR (2 bytes of each) and"
            + " one link; a directory with its two entries (its block is taken first): its number.";

    @Sentence(in = "Promise 4", says = CREATE, unreached = "inode 1, the root, is never free: its two entries can't be unlinked;"
            + " so 2 is the least that ever comes")
    private static void createLeastInode() {
        Tree t = new Tree();
        for (int i = 2; i < 64; i++) {
            due("create", i, t.create("f" + i, FILE));
        }
        due("unlink", 63, t.unlink(1, "f63"));
        due("unlink", 2, t.unlink(1, "f2"));
        due("unlink", 33, t.unlink(1, "f33"));
        due("the least", 2, t.create("a", FILE));
        due("the next", 33, t.create("b", DIRECTORY));
        due("the last", 63, t.create("c", DEVICE));
        due("none", NONE, t.create("d", FILE));
        due("inode 0 is none", 0, t.about(0, 0));
    }

    @Sentence(in = "Promise 4", says = CREATE)
    private static void createHeldInodeIsNotFree() {
        Tree t = new Tree();
        t.create("f", FILE);
        t.hold(2);
        t.unlink(1, "f");
        due("the next one", 3, t.create("f", FILE));
        t.leave(2);
        due("the least", 2, t.create("g", FILE));
    }

    @Sentence(in = "Promise 4", says = CREATE)
    private static void createEachKind() {
        Tree t = new Tree();
        for (int kind = 1; kind < 4; kind++) {
            t.text("n" + kind);
            due("create", 1 + kind, t.create(1, kind, 10 * kind, 20 * kind));
            dueAbout("kind " + kind, t, 1 + kind, kind, 10 * kind, 20 * kind, 1, kind == 1 ? 32 : 0, 0);
        }
        due("one block", 472, t.free());
        due("the directory's .", "2 ._____________", t.entry(39, 0));
        due("the directory's ..", "1 ..____________", t.entry(39, 16));
    }

    @Sentence(in = "Promise 4", says = CREATE)
    private static void createMajorAndMinor() {
        int[] given = {0, 1, 255, 256, 32767, 32768, 65535, 65536, 65537, -1, -2, -65536, MIN, MAX};
        int[] kept = {0, 1, 255, 256, 32767, 32768, 65535, 0, 1, 65535, 65534, 0, 0, 65535};
        for (int i = 0; i < given.length; i++) {
            Tree t = new Tree();
            t.text("v");
            due("create", 2, t.create(1, 1 + i % 3, given[i], given[given.length - 1 - i]));
            due("major of " + given[i], kept[i], t.about(2, 1));
            due("minor", kept[given.length - 1 - i], t.about(2, 2));
            due("kind", 1 + i % 3, t.about(2, 0));
            due("links", 1, t.about(2, 3));
        }
    }

    @Sentence(in = "Promise 4", says = CREATE)
    private static void createTakesOwnBlockFirst() {
        Tree t = new Tree();
        t.create("x", FILE);
        addLinks(t, 61);
        due("root's size", 1024, t.about(1, 4));
        due("create", 3, t.create("d", DIRECTORY));
        due("its block", 39, t.inodeNumber(3, 0));
        due("then the root's", 40, t.inodeNumber(1, 1));
        due("its entry", "3 d_____________", t.entry(40, 0));
        due("its .", "3 ._____________", t.entry(39, 0));
        due("its ..", "1 ..____________", t.entry(39, 16));
        due("free", 471, t.free());
        due("root's links", 3, t.about(1, 3));
    }

    @Sentence(in = "Promise 4", says = CREATE)
    private static void createWithTheLastBlocks() {
        Tree t = filledRoot(2);
        due("both are taken", 5, t.create("d", DIRECTORY));
        due("its block", 510, t.inodeNumber(5, 0));
        due("the root's", 511, t.inodeNumber(1, 1));
        due("free", 0, t.free());
        t = filled(0, 1);
        due("the last one", 5, t.create("d", DIRECTORY));
        due("its block", 511, t.inodeNumber(5, 0));
        due("free", 0, t.free());
    }

    private static final String CREATE_THERE = "If the name is there: the inode, if the kind is 2, and it is a file or a device.";

    @Sentence(in = "Promise 4", says = CREATE_THERE)
    private static void createWhatIsThere() {
        Tree t = new Tree();
        t.create("d", DIRECTORY);
        t.text("f");
        t.create(1, FILE, 3, 4);
        t.text("v");
        t.create(1, DEVICE, 5, 6);
        t.save(3, 0, 100);
        String[] names = {"d", "f", "v", ".", ".."};
        int[] answers = {NONE, 3, 4, NONE, NONE};
        for (int i = 0; i < names.length; i++) {
            for (int kind = 0; kind < 5; kind++) {
                t.text(names[i]);
                due(names[i] + " of kind " + kind, kind == 2 ? answers[i] : NONE, t.create(1, kind, 7, 8));
            }
        }
        dueAbout("d", t, 2, 1, 0, 0, 1, 32, 0);
        dueAbout("f", t, 3, 2, 3, 4, 1, 100, 0);
        dueAbout("v", t, 4, 3, 5, 6, 1, 0, 0);
        due("root's size", 80, t.about(1, 4));
        due("nothing came", 0, t.about(5, 0));
    }

    @Sentence(in = "Promise 4", says = CREATE_THERE)
    private static void createWhatIsThereNeedsNothing() {
        Tree t = filledRoot(0);
        due("without a block", 2, t.create("x", FILE));
        due("links stay", 60, t.about(2, 3));
        t = new Tree();
        for (int i = 2; i < 64; i++) {
            due("create", i, t.create("f" + i, FILE));
        }
        due("without an inode", 63, t.create("f63", FILE));
        due("none more", NONE, t.create("f64", FILE));
    }

    private static final String CREATE_NONE = "Else NONE, also without a last name, without such a directory, an inode, a block"
            + " that is wanted, or for another kind.";

    private static void dueNothingCreated(Tree t) {
        due("no inode", 0, t.about(4, 0));
        due("root's size", 64, t.about(1, 4));
        due("root's links", 2, t.about(1, 3));
        due("free", 473, t.free());
    }

    @Sentence(in = "Promise 4", says = CREATE_NONE)
    private static void createWithoutLastName() {
        Tree t = new Tree();
        t.create("f", FILE);
        t.create("v", DEVICE);
        for (int kind = 1; kind < 4; kind++) {
            for (int from = 1; from < 4; from++) {
                due("nothing", NONE, t.create(from, "", kind));
                due("/", NONE, t.create(from, "/", kind));
                due("///", NONE, t.create(from, "///", kind));
            }
        }
        dueNothingCreated(t);
    }

    @Sentence(in = "Promise 4", says = CREATE_NONE)
    private static void createWithoutDirectory() {
        Tree t = new Tree();
        t.create("f", FILE);
        t.create("v", DEVICE);
        for (int kind = 1; kind < 4; kind++) {
            due("nowhere", NONE, t.create("n/a", kind));
            due("below a file", NONE, t.create("f/a", kind));
            due("below a device", NONE, t.create("v/a", kind));
            due("from a file", NONE, t.create(2, "a", kind));
            due("from a device", NONE, t.create(3, "a", kind));
            due("from none", NONE, t.create(4, "a", kind));
            due("behind a file", NONE, t.create("f/../a", kind));
        }
        dueNothingCreated(t);
    }

    @Sentence(in = "Promise 4", says = CREATE_NONE)
    private static void createWithoutInode() {
        Tree t = new Tree();
        for (int i = 2; i < 64; i++) {
            due("create", i, t.create("f" + i, i == 2 ? DIRECTORY : FILE));
        }
        for (int kind = 1; kind < 4; kind++) {
            due("none more", NONE, t.create("n", kind));
            due("none more below", NONE, t.create("f2/n", kind));
        }
        due("root's links", 3, t.about(1, 3));
        due("root's size", 1024, t.about(1, 4));
        due("f2's size", 32, t.about(2, 4));
        due("free", 472, t.free());
    }

    @Sentence(in = "Promise 4", says = CREATE_NONE)
    private static void createWithoutBlock() {
        Tree t = filled(0, 0);
        due("a file needs none", 5, t.create("f", FILE));
        due("a device needs none", 6, t.create("v", DEVICE));
        due("a directory needs one", NONE, t.create("d", DIRECTORY));
        due("no inode", 0, t.about(7, 0));
        due("root's links", 2, t.about(1, 3));
        due("root's size", 7 * 16, t.about(1, 4));
        due("not there", NONE, t.find(1, "d"));
        due("a block comes", 2048, t.save(4, 0, 2048));
        due("unlink A", 3, t.unlink(1, "A"));
        due("then it is there", 3, t.create("d", DIRECTORY));
        due("its block", 39, t.inodeNumber(3, 0));
    }

    @Sentence(in = "Promise 4", says = CREATE_NONE)
    private static void createOfAnotherKind() {
        Tree t = new Tree();
        t.create("f", FILE);
        t.create("v", DEVICE);
        int[] kinds = {MIN, -65535, -65534, -3, -2, -1, 0, 4, 5, 255, 256, 257, 65537, 65538, 65539, MAX};
        for (int kind : kinds) {
            due("kind " + kind, NONE, t.create("n", kind));
            due("kind " + kind + " of what is there", NONE, t.create("f", kind));
        }
        dueNothingCreated(t);
    }

    // ---- Promise 5: link

    private static final String LINK = "The text, two paths with a blank between: the last name of the second one is another entry"
            + " for what the first one leads to: its inode.";

    @Sentence(in = "Promise 5", says = LINK)
    private static void linkTwoPaths() {
        Tree t = new Tree();
        t.create("f", FILE);
        t.create("v", DEVICE);
        t.create("d", DIRECTORY);
        due("a file", 2, t.link(1, "f d/g"));
        due("a device", 3, t.link(1, "v d/w"));
        due("its entry", "2 g_____________", t.entry(39, 32));
        due("its entry", "3 w_____________", t.entry(39, 48));
        due("links", 2, t.about(2, 3));
        due("links", 2, t.about(3, 3));
        due("d's size", 64, t.about(4, 4));
        due("d's links", 1, t.about(4, 3));
        due("the least: three bytes", 2, t.link(4, "g a"));
        due("the most: 257 bytes", 2, t.link(4, "/".repeat(127) + "f " + "/".repeat(127) + "b"));
        due("links", 4, t.about(2, 3));
        due("no inode came", 0, t.about(5, 0));
    }

    @Sentence(in = "Promise 5", says = LINK)
    private static void linkNotTwoPaths() {
        Tree t = new Tree();
        t.create("f", FILE);
        String[] texts = {"", "f", " ", "  ", "f  g", " f g", "f g ", "f g h", "f  ", "f/g", "f " + "/".repeat(128) + "g",
            "/".repeat(128) + "f g"};
        for (String text : texts) {
            due("'" + text + "'", NONE, t.link(1, text));
        }
        due("links", 1, t.about(2, 3));
        due("root's size", 48, t.about(1, 4));
    }

    @Sentence(in = "Promise 5", says = LINK)
    private static void linkOfAPathWithoutNames() {
        Tree t = new Tree();
        t.create("f", FILE);
        t.create("v", DEVICE);
        due("leads to a file", 2, t.link(2, " /g"));
        due("leads to a device", 3, t.link(3, " /w"));
        due("leads to the root", NONE, t.link(1, " n"));
        due("/ leads to the root", NONE, t.link(2, "/ /n"));
        due("the other one from a file", NONE, t.link(2, " n"));
        due("links", 2, t.about(2, 3));
        due("links", 2, t.about(3, 3));
    }

    @Sentence(in = "Promise 5", says = LINK)
    private static void linkOfAFileWithoutLinks() {
        Tree t = new Tree();
        t.create("f", FILE);
        t.hold(2);
        t.unlink(1, "f");
        due("another entry", 2, t.link(2, " /g"));
        due("links", 1, t.about(2, 3));
        due("leave", true, t.leave(2));
        due("it stays", 2, t.find(1, "g"));
        due("kind", 2, t.about(2, 0));
    }

    private static final String LINK_NONE = "NONE if that leads nowhere or to a directory, or has 32767 links, or the second one has"
            + " no last name, its directory is not there or can't have the entry, or the name is there.";

    private static void dueNothingLinked(Tree t) {
        due("f's links", 1, t.about(2, 3));
        due("d's links", 1, t.about(3, 3));
        due("d's size", 32, t.about(3, 4));
        due("root's size", 64, t.about(1, 4));
        due("free", 472, t.free());
    }

    private static Tree withFileAndDirectory() {
        Tree t = new Tree();
        t.create("f", FILE);
        t.create("d", DIRECTORY);
        return t;
    }

    @Sentence(in = "Promise 5", says = LINK_NONE)
    private static void linkOfNothing() {
        Tree t = withFileAndDirectory();
        for (String path : new String[] {"n", "/n", "d/f", "f/f", "f/.", "n/f", "F"}) {
            due(path, NONE, t.link(1, path + " g"));
        }
        due("from a file", NONE, t.link(2, "f /g"));
        dueNothingLinked(t);
    }

    @Sentence(in = "Promise 5", says = LINK_NONE)
    private static void linkOfADirectory() {
        Tree t = withFileAndDirectory();
        for (String path : new String[] {"d", "/d", "d/", ".", "..", "/", "d/.", "d/.."}) {
            due(path, NONE, t.link(1, path + " g"));
        }
        dueNothingLinked(t);
    }

    @Sentence(in = "Promise 5", says = LINK_NONE, unreached = "32767 links: an entry takes two calls, so 512 calls make no more than"
            + " 256, and all 474 blocks of entries would have room for 30,336")
    private static void mostLinksOf512Calls() {
        Tree t = new Tree();
        t.create("f", FILE);
        for (int i = 0; i < 254; i++) {
            due("link", 2, t.link(1, "f " + i));
        }
        due("links", 255, t.about(2, 3));
        due("calls left", 1, t.callsLeft());
    }

    /** Behind the 512th call: links need both bytes of their number, and stay below 32767. */
    @Sentence(in = "Promise 5", says = LINK_NONE)
    private static void linksBeyond255() {
        Tree t = new Tree(Tree.ANY_NUMBER);
        t.create("f", FILE);
        for (int i = 0; i < 600; i++) {
            due("link", 2, t.link(1, "f " + i));
        }
        due("links", 601, t.about(2, 3));
        due("low byte", 601 & 255, t.peek(33, 128 + 6));
        due("high byte", 601 >> 8, t.peek(33, 128 + 7));
        due("major", 0, t.about(2, 1));
        due("size", 0, t.about(2, 4));
    }

    @Sentence(in = "Promise 5", says = LINK_NONE)
    private static void linkWithoutLastName() {
        Tree t = withFileAndDirectory();
        for (String path : new String[] {"", "/", "//"}) {
            due("'" + path + "'", NONE, t.link(1, "f " + path));
        }
        dueNothingLinked(t);
    }

    @Sentence(in = "Promise 5", says = LINK_NONE)
    private static void linkWithoutDirectory() {
        Tree t = withFileAndDirectory();
        for (String path : new String[] {"n/g", "/n/g", "f/g", "d/n/g", "f/../g"}) {
            due(path, NONE, t.link(1, "f " + path));
        }
        due("from a file", NONE, t.link(2, "/f g"));
        dueNothingLinked(t);
    }

    @Sentence(in = "Promise 5", says = LINK_NONE)
    private static void linkWithoutRoom() {
        Tree t = filledRoot(0);
        due("no block", NONE, t.link(1, "x n"));
        due("links", 60, t.about(2, 3));
        due("root's size", 1024, t.about(1, 4));
        due("not there", NONE, t.find(1, "n"));
        due("one goes", 2, t.unlink(1, "l0"));
        due("room", 2, t.link(1, "x n"));
        t = filledRoot(1);
        due("a block", 2, t.link(1, "x n"));
        due("it is taken", 0, t.free());
        due("the last one", 511, t.inodeNumber(1, 1));
        t = withFileAndDirectory();
        t.hold(3);
        t.unlink(1, "d");
        due("no links", NONE, t.link(3, "/f g"));
        due("f's links", 1, t.about(2, 3));
    }

    @Sentence(in = "Promise 5", says = LINK_NONE)
    private static void linkToWhatIsThere() {
        Tree t = withFileAndDirectory();
        for (String path : new String[] {"f", "d", ".", "..", "d/.", "d/..", "/f", "f/"}) {
            due(path, NONE, t.link(1, "f " + path));
        }
        dueNothingLinked(t);
    }

    // ---- Promise 6: unlink

    @Sentence(in = "Promise 6", says = "The text, a path: the entry of its last name is free: the inode's number.")
    private static void unlinkOneOfTwo() {
        Tree t = new Tree();
        t.create("f", FILE);
        t.link(1, "f g");
        t.create("v", DEVICE);
        t.save(2, 0, 1025);
        due("one of two", 2, t.unlink(1, "f"));
        due("its entry", "0 ______________", t.entry(38, 32));
        due("the other one", "2 g_____________", t.entry(38, 48));
        due("links", 1, t.about(2, 3));
        due("size", 1025, t.about(2, 4));
        due("blocks", 471, t.free());
        due("the last one", 2, t.unlink(1, "g"));
        due("its entry", "0 ______________", t.entry(38, 48));
        due("kind", 0, t.about(2, 0));
        due("blocks", 473, t.free());
        due("a device", 3, t.unlink(1, "v"));
        due("kind", 0, t.about(3, 0));
        due("root's size", 80, t.about(1, 4));
        due("root's links", 2, t.about(1, 3));
    }

    @Sentence(in = "Promise 6", says = "The text, a path: the entry of its last name is free: the inode's number.")
    private static void unlinkHeld() {
        Tree t = new Tree();
        t.create("f", FILE);
        t.save(2, 0, 1);
        t.hold(2);
        due("unlink", 2, t.unlink(1, "f"));
        due("its entry", "0 ______________", t.entry(38, 32));
        dueAbout("it stays", t, 2, 2, 0, 0, 0, 1, 1);
        due("its block", 472, t.free());
        due("save", 2000, t.save(2, 1, 2000));
        due("read", 2001, t.read(2, 0, 3072));
        due("clear", true, t.clear(2));
        due("still held", 2, t.about(2, 0));
    }

    private static final String UNLINK_NONE = "NONE if there is none, the name is . or .., or it is a directory with entries in use"
            + " but its two (which are free then, too, if it goes).";

    @Sentence(in = "Promise 6", says = UNLINK_NONE)
    private static void unlinkNothing() {
        Tree t = withFileAndDirectory();
        for (String path : new String[] {"", "/", "//", "n", "d/n", "n/f", "f/f", "d/f", "F", "ff"}) {
            due("'" + path + "'", NONE, t.unlink(1, path));
        }
        due("from a file", NONE, t.unlink(2, "f"));
        due("once", 2, t.unlink(1, "f"));
        due("twice", NONE, t.unlink(1, "f"));
        due("root's size", 64, t.about(1, 4));
        due("d", "3 d_____________", t.entry(38, 48));
    }

    @Sentence(in = "Promise 6", says = UNLINK_NONE)
    private static void unlinkDots() {
        Tree t = withFileAndDirectory();
        for (String path : new String[] {".", "..", "/.", "/..", "d/.", "d/..", "./", "d//..//"}) {
            due(path, NONE, t.unlink(1, path));
        }
        due("d's .", "3 ._____________", t.entry(39, 0));
        due("d's ..", "1 ..____________", t.entry(39, 16));
        due("root's .", "1 ._____________", t.entry(38, 0));
        due("d's links", 1, t.about(3, 3));
        due("root's links", 3, t.about(1, 3));
        for (String name : new String[] {"...", ".a", "..a", "a.", "a..", ".".repeat(15)}) {
            due("create " + name, 4, t.create(name, FILE));
            due("unlink " + name, 4, t.unlink(1, name));
        }
    }

    /** A directory without other entries could go, but not by these names. */
    @Sentence(in = "Promise 6", says = UNLINK_NONE)
    private static void unlinkDotsOfTheEmptyRoot() {
        Tree t = new Tree();
        for (String path : new String[] {".", "..", "/.", "/..", "../..", "./.."}) {
            due(path, NONE, t.unlink(1, path));
        }
        due("root's .", "1 ._____________", t.entry(38, 0));
        due("root's ..", "1 ..____________", t.entry(38, 16));
        dueAbout("root", t, 1, 1, 0, 0, 2, 32, 0);
    }

    @Sentence(in = "Promise 6", says = UNLINK_NONE)
    private static void unlinkDirectoryInUse() {
        Tree t = new Tree();
        t.create("d", DIRECTORY);
        for (int kind = 1; kind < 4; kind++) {
            due("create", 3, t.create("d/n", kind));
            due("in use", NONE, t.unlink(1, "d"));
            due("its links", kind == 1 ? 2 : 1, t.about(2, 3));
            due("its entry", "2 d_____________", t.entry(38, 32));
            due("its .", "2 ._____________", t.entry(39, 0));
            due("unlink", 3, t.unlink(1, "d/n"));
        }
        due("size of two and a free one", 48, t.about(2, 4));
        due("not in use", 2, t.unlink(1, "d"));
        due("free", 473, t.free());
    }

    /** The one entry in use is the last of the first block, then the first of the second one. */
    @Sentence(in = "Promise 6", says = UNLINK_NONE)
    private static void unlinkDirectoryWithALateEntry() {
        Tree t = new Tree();
        t.create("d", DIRECTORY);
        t.create("d/x", FILE);
        for (int i = 1; i < 63; i++) {
            due("link", 3, t.link(2, "x " + i));
        }
        due("size", 1040, t.about(2, 4));
        t.unlink(2, "x");
        for (int i = 1; i < 61; i++) {
            due("unlink", 3, t.unlink(2, "" + i));
        }
        due("two in use", NONE, t.unlink(1, "d"));
        due("the one in the second block", 3, t.unlink(2, "62"));
        due("the last of the first block", NONE, t.unlink(1, "d"));
        due("another one", 3, t.link(2, "61 x"));
        due("goes", 3, t.unlink(2, "61"));
        due("the third entry", NONE, t.unlink(1, "d"));
        due("the last one", 3, t.unlink(2, "x"));
        due("both blocks", 471, t.free());
        due("d goes", 2, t.unlink(1, "d"));
        due("free", 473, t.free());
    }

    @Sentence(in = "Promise 6", says = UNLINK_NONE)
    private static void unlinkDirectoryWithEntryInSecondBlock() {
        Tree t = new Tree();
        t.create("d", DIRECTORY);
        t.create("d/x", FILE);
        for (int i = 1; i < 63; i++) {
            due("link", 3, t.link(2, "x " + i));
        }
        t.unlink(2, "x");
        for (int i = 1; i < 62; i++) {
            due("unlink", 3, t.unlink(2, "" + i));
        }
        due("one in the second block", NONE, t.unlink(1, "d"));
        due("it is", "3 62____________", t.entry(40, 0));
        due("it goes", 3, t.unlink(2, "62"));
        due("d goes", 2, t.unlink(1, "d"));
    }

    @Sentence(in = "Promise 6", says = UNLINK_NONE)
    private static void twoEntriesOfADirectoryThatGoes() {
        Tree t = new Tree();
        t.create("d", DIRECTORY);
        t.create("d/e", DIRECTORY);
        due("unlink", 3, t.unlink(1, "d/e"));
        due("its . is free", "0 ______________", t.entry(40, 0));
        due("its .. is free", "0 ______________", t.entry(40, 16));
        due("its entry is free", "0 ______________", t.entry(39, 32));
        due("d's links", 1, t.about(2, 3));
        due("d's .", "2 ._____________", t.entry(39, 0));
        due("its block is free", 472, t.free());
        due("from itself", 2, t.unlink(2, "../d"));
        due("root's links", 2, t.about(1, 3));
    }

    @Sentence(in = "Promise 6", says = UNLINK_NONE)
    private static void twoEntriesOfAHeldDirectoryThatGoes() {
        Tree t = new Tree();
        t.create("d", DIRECTORY);
        t.create("d/e", DIRECTORY);
        t.hold(3);
        due("unlink", 3, t.unlink(1, "d/e"));
        dueAbout("held", t, 3, 1, 0, 0, 0, 32, 1);
        due("its . is free", "0 ______________", t.entry(40, 0));
        due("its .. is free", "0 ______________", t.entry(40, 16));
        due("no .", NONE, t.find(3, "."));
        due("no ..", NONE, t.find(3, ".."));
        due("d's links", 1, t.about(2, 3));
        due("its block stays", 471, t.free());
        due("32 bytes", 32, t.read(3, 0, 3072));
        due("bytes 0", 0, t.at(2));
        due("d goes, too", 2, t.unlink(1, "d"));
        due("leave", true, t.leave(3));
        due("free", 473, t.free());
    }

    // ---- Promise 7: hold, Promise 8: leave

    @Sentence(in = "Promise 7", says = "An inode in use is held once more: true; false if it is none.")
    private static void holdInUse() {
        Tree t = new Tree();
        for (int i = 2; i < 64; i++) {
            due("create", i, t.create("f" + i, 1 + i % 3));
        }
        for (int i = 1; i < 64; i++) {
            due("hold " + i, true, t.hold(i));
            due("held " + i, 1, t.about(i, 5));
        }
        due("hold again", true, t.hold(63));
        due("held twice", 2, t.about(63, 5));
        due("others not", 1, t.about(62, 5));
        t.unlink(1, "f63");
        due("one without links", true, t.hold(63));
        due("held", 3, t.about(63, 5));
    }

    @Sentence(in = "Promise 7", says = "An inode in use is held once more: true; false if it is none.")
    private static void holdNone() {
        Tree t = new Tree();
        t.create("f", FILE);
        t.unlink(1, "f");
        due("inode 0", false, t.hold(0));
        due("held", 0, t.about(0, 5));
        due("one that is gone", false, t.hold(2));
        due("held", 0, t.about(2, 5));
        due("the last one", false, t.hold(63));
        due("held", 0, t.about(63, 5));
        for (int inode : NO_INODES) {
            due("hold " + inode, false, t.hold(inode));
        }
        due("a new one is not held", 2, t.create("g", FILE));
        due("held", 0, t.about(2, 5));
    }

    @Sentence(in = "Promise 8", says = "An inode is held once less: true; false if it is not held.")
    private static void leaveHeld() {
        Tree t = new Tree();
        t.create("f", FILE);
        t.hold(2);
        t.hold(2);
        due("leave", true, t.leave(2));
        due("held", 1, t.about(2, 5));
        due("leave", true, t.leave(2));
        due("held", 0, t.about(2, 5));
        due("not held", false, t.leave(2));
        due("held", 0, t.about(2, 5));
        due("it stays: it has a link", 2, t.about(2, 0));
        t.hold(1);
        due("the root", true, t.leave(1));
        due("the root stays", 1, t.about(1, 0));
        due("the root is not held", false, t.leave(1));
    }

    @Sentence(in = "Promise 8", says = "An inode is held once less: true; false if it is not held.")
    private static void leaveNone() {
        Tree t = new Tree();
        t.create("f", FILE);
        t.hold(2);
        t.unlink(1, "f");
        due("leave", true, t.leave(2));
        due("it is free", 0, t.about(2, 0));
        due("leave again", false, t.leave(2));
        due("held", 0, t.about(2, 5));
        due("inode 0", false, t.leave(0));
        due("inode 63", false, t.leave(63));
        for (int inode : NO_INODES) {
            due("leave " + inode, false, t.leave(inode));
        }
        t.create("f", FILE);
        t.hold(2);
        t.forget();
        due("behind forget", false, t.leave(2));
    }

    // ---- Promise 9: read

    private static final String READ = "n bytes of an inode from one on come into the buffer, as many as there are: how many.";

    private static Tree withPattern(int size) {
        Tree t = new Tree();
        t.create("f", FILE);
        fillPattern(t);
        due("grow", size, t.grow(2, 0, size));
        return t;
    }

    /** A file with the pattern is read over a buffer of other bytes: how many come, and which. */
    private static void dueRead(int size, int at, int n, int want) {
        Supplier<Tree> maker = () -> {
            Tree t = withPattern(size);
            t.fill(0, 3072, 3);
            due("read " + n + " from " + at + " of " + size, want, t.read(2, at, n));
            return t;
        };
        dueBuffer("read", maker, 0, want, k -> pattern(at + k));
        dueBuffer("behind what was read", maker, want, Math.min(3072, want + 40), k -> 3 + k & 255);
        due("size", size, maker.get().about(2, 4));
    }

    @Sentence(in = "Promise 9", says = READ)
    private static void readAsManyAsThereAre() {
        dueRead(100, 0, 99, 99);
        dueRead(100, 0, 100, 100);
        dueRead(100, 0, 101, 100);
        dueRead(100, 0, 3072, 100);
        dueRead(100, 99, 1, 1);
        dueRead(100, 99, 3072, 1);
        dueRead(100, 100, 1, 0);
        dueRead(100, 101, 3072, 0);
        dueRead(100, 1024, 3072, 0);
        dueRead(100, 99, 0, 0);
        dueRead(100, 0, 0, 0);
        dueRead(100, MAX, 3072, 0);
        dueRead(100, MAX, 0, 0);
        dueRead(0, 0, 3072, 0);
        dueRead(0, 1, 1, 0);
    }

    @Sentence(in = "Promise 9", says = READ)
    private static void readOverBlocks() {
        dueRead(6000, 1023, 2, 2);
        dueRead(6000, 1024, 1024, 1024);
        dueRead(6000, 1, 3072, 3072);
        dueRead(6000, 2928, 3072, 3072);
        dueRead(6000, 2929, 3072, 3071);
        dueRead(14000, 12287, 2, 2);
        dueRead(14000, 12288, 3072, 1712);
        dueRead(14000, 11000, 3072, 3000);
        dueRead(274432, 274431, 2, 1);
        dueRead(274432, 271360, 3072, 3072);
        dueRead(274432, 274432, 1, 0);
    }

    @Sentence(in = "Promise 9", says = READ)
    private static void readDirectory() {
        Tree t = withFileAndDirectory();
        due("the root", 64, t.read(1, 0, 3072));
        int[] entry = {3, 0, 'd', 0};
        for (int k = 0; k < 4; k++) {
            due("d's entry, byte " + k, entry[k], t.at(48 + k));
        }
        due("the middle of an entry", 14, t.read(1, 50, 3072));
        due("its name", 'd', t.at(0));
        due("its end", 0, t.read(1, 64, 1));
        due("another one", 32, t.read(3, 0, 32));
        due("its ..", 1, t.at(16));
    }

    private static final String READ_NONE = "NONE if it is none in use, is a device, at is below 0, or n not 0 .. 3072.";

    @Sentence(in = "Promise 9", says = READ_NONE)
    private static void readNoneInUse() {
        Tree t = new Tree();
        t.create("f", FILE);
        t.unlink(1, "f");
        for (int inode : new int[] {0, 2, 3, 63}) {
            due("read of " + inode, NONE, t.read(inode, 0, 0));
        }
        for (int inode : NO_INODES) {
            due("read of " + inode, NONE, t.read(inode, 0, 1));
        }
    }

    @Sentence(in = "Promise 9", says = READ_NONE)
    private static void readDevice() {
        Tree t = new Tree();
        t.create("v", DEVICE);
        due("some", NONE, t.read(2, 0, 1));
        due("none", NONE, t.read(2, 0, 0));
        due("far", NONE, t.read(2, 5, 3072));
    }

    @Sentence(in = "Promise 9", says = READ_NONE)
    private static void readWrongPlaces() {
        Tree t = withPattern(100);
        t.fill(0, 3072, 3);
        for (int at : new int[] {-1, -100, -3072, MIN}) {
            due("at " + at, NONE, t.read(2, at, 1));
            due("none at " + at, NONE, t.read(2, at, 0));
            due("all at " + at, NONE, t.read(2, at, 3072));
        }
        for (int n : new int[] {-1, 3073, 65536, MIN, MAX}) {
            due("n " + n, NONE, t.read(2, 0, n));
            due("n " + n + " at the end", NONE, t.read(2, 100, n));
            due("n " + n + " of the root", NONE, t.read(1, 0, n));
        }
        for (int k = 0; k < 110; k++) {
            due("the buffer stays", 3 + k & 255, t.at(k));
        }
        due("n 3072", 100, t.read(2, 0, 3072));
        due("n 0", 0, t.read(2, 0, 0));
    }

    // ---- Promise 10: save

    private static final String SAVE = "The first n bytes of the buffer come into a file from byte at on, block by block, as long as"
            + " there is a block for them (and another one for the numbers, if it is the first of these): how many; SIZE is the"
            + " end of those, if it was less.";

    /** x has a size, some blocks are left: how many of n bytes from at on come, and what is left then. */
    private static void dueSave(int size, int left, int at, int n, int want) {
        Tree t = filled(size, left);
        String what = "save " + n + " at " + at + " of " + size + " with " + left + " blocks left";
        int end = Math.max(size, at + want);
        due(what, want, t.save(2, at, n));
        due(what + ": size", end, t.about(2, 4));
        due(what + ": free", left + blocksFor(size) - blocksFor(end), t.free());
    }

    @Sentence(in = "Promise 10", says = SAVE)
    private static void saveAsLongAsThereIsABlock() {
        dueSave(0, 0, 0, 1, 0);
        dueSave(0, 0, 0, 3072, 0);
        dueSave(0, 0, 0, 0, 0);
        dueSave(0, 1, 0, 3072, 1024);
        dueSave(0, 2, 0, 3072, 2048);
        dueSave(0, 3, 0, 3072, 3072);
        dueSave(0, 1, 0, 1024, 1024);
        dueSave(0, 1, 0, 1025, 1024);
        dueSave(1000, 0, 1000, 24, 24);
        dueSave(1000, 0, 1000, 25, 24);
        dueSave(1000, 0, 0, 3072, 1024);
        dueSave(1024, 0, 1024, 1, 0);
        dueSave(1024, 0, 1023, 2, 1);
        dueSave(1024, 0, 0, 3072, 1024);
        dueSave(3000, 0, 100, 2000, 2000);
        dueSave(1000, 1, 1000, 3072, 1048);
        dueSave(1000, 4, 1000, 3072, 3072);
    }

    @Sentence(in = "Promise 10", says = SAVE)
    private static void saveWhereNumbersCome() {
        dueSave(12288, 0, 12288, 1, 0);
        dueSave(12288, 1, 12288, 1, 0);
        dueSave(12288, 1, 12288, 3072, 0);
        dueSave(12288, 1, 12288, 0, 0);
        dueSave(12288, 2, 12288, 3072, 1024);
        dueSave(12288, 3, 12288, 3072, 2048);
        dueSave(12288, 4, 12288, 3072, 3072);
        dueSave(12288, 1, 12000, 3072, 288);
        dueSave(12288, 2, 12000, 3072, 1312);
        dueSave(12000, 1, 12000, 3072, 288);
        dueSave(11264, 1, 11264, 3072, 1024);
        dueSave(11264, 2, 11264, 3072, 1024);
        dueSave(11264, 3, 11264, 3072, 2048);
        dueSave(12289, 0, 12289, 3072, 1023);
        dueSave(13312, 0, 13312, 1, 0);
        dueSave(13312, 1, 13312, 3072, 1024);
        dueSave(13312, 2, 13312, 3072, 2048);
    }

    @Sentence(in = "Promise 10", says = SAVE)
    private static void saveTakesNothingThatHasNoBytes() {
        Tree t = filled(12288, 1);
        due("none comes", 0, t.save(2, 12288, 1024));
        due("no block of numbers", 0, t.inodeNumber(2, 12));
        due("the map", 127, t.peek(37, 63));
        due("a directory can have it", 5, t.create("d", DIRECTORY));
        due("none left", 0, t.free());
    }

    @Sentence(in = "Promise 10", says = SAVE)
    private static void saveBytes() {
        Supplier<Tree> maker = () -> {
            Tree t = withPattern(6000);
            t.fill(0, 3072, 3);
            due("save", 1030, t.save(2, 1020, 1030));
            due("size stays", 6000, t.about(2, 4));
            return t;
        };
        dueBytes("before", maker, 39, 0, 1020, k -> pattern(k));
        dueBytes("saved", maker, 39, 1020, 1024, k -> 3 + k - 1020 & 255);
        dueBytes("saved", maker, 40, 0, 1024, k -> 3 + k + 4 & 255);
        dueBytes("saved", maker, 41, 0, 2, k -> 3 + k + 1028 & 255);
        dueBytes("behind", maker, 41, 2, 1024, k -> pattern(2048 + k));
        dueBytes("behind the size", maker, 44, 6000 - 5120, 1024, k -> 0);
    }

    @Sentence(in = "Promise 10", says = SAVE)
    private static void saveBytesOverTheTwelfthBlock() {
        Supplier<Tree> maker = () -> {
            Tree t = withPattern(12000);
            t.fill(0, 3072, 200);
            due("save", 3072, t.save(2, 11900, 3072));
            due("size", 14972, t.about(2, 4));
            t.fill(0, 3072, 0);
            due("read", 3072, t.read(2, 11900, 3072));
            return t;
        };
        dueBuffer("saved", maker, 0, 3072, k -> 200 + k & 255);
        dueBytes("before", maker, 50, 0, 11900 - 11264, k -> pattern(11264 + k));
        dueBytes("in the twelfth", maker, 50, 11900 - 11264, 1024, k -> 200 + k - 636 & 255);
        dueBytes("in the thirteenth", maker, 52, 0, 1024, k -> 200 + k + 388 & 255);
    }

    @Sentence(in = "Promise 10", says = SAVE)
    private static void sizeIsTheEndIfItWasLess() {
        Tree t = new Tree();
        t.create("f", FILE);
        int[][] saves = {{0, 0, 0}, {0, 1, 1}, {0, 1, 1}, {1, 1, 2}, {0, 2, 2}, {0, 3, 3}, {3, 0, 3}, {1, 1, 3}, {2, 2, 4},
            {0, 3072, 3072}, {3072, 3072, 6144}, {6143, 1, 6144}, {6143, 2, 6145}, {0, 3072, 6145}};
        for (int[] s : saves) {
            due("save at " + s[0], s[1], t.save(2, s[0], s[1]));
            due("size", s[2], t.about(2, 4));
        }
    }

    private static final String SAVE_NONE = "NONE, changing nothing, if it is no file, at is not 0 .. SIZE, n not 0 .. 3072, or they"
            + " would end beyond 274,432.";

    @Sentence(in = "Promise 10", says = SAVE_NONE)
    private static void saveNoFile() {
        Tree t = new Tree();
        t.create("v", DEVICE);
        t.create("d", DIRECTORY);
        t.create("f", FILE);
        t.unlink(1, "f");
        t.fill(0, 3072, 1);
        for (int inode : new int[] {0, 1, 2, 3, 4, 63}) {
            due("save in " + inode, NONE, t.save(inode, 0, 1));
            due("none in " + inode, NONE, t.save(inode, 0, 0));
        }
        for (int inode : NO_INODES) {
            due("save in " + inode, NONE, t.save(inode, 0, 1));
        }
        due("the root's .", "1 ._____________", t.entry(38, 0));
        due("d's .", "3 ._____________", t.entry(39, 0));
        due("the device's size", 0, t.about(2, 4));
        due("free", 472, t.free());
    }

    @Sentence(in = "Promise 10", says = SAVE_NONE)
    private static void saveOutsideOfSize() {
        Tree t = withPattern(1000);
        t.fill(0, 3072, 1);
        for (int at : new int[] {-1, -1024, MIN, 1001, 1024, 2000, 274432, 274433, MAX}) {
            due("at " + at, NONE, t.save(2, at, 1));
            due("none at " + at, NONE, t.save(2, at, 0));
            due("all at " + at, NONE, t.save(2, at, 3072));
        }
        due("size", 1000, t.about(2, 4));
        due("free", 472, t.free());
        due("first byte", pattern(0), t.peek(39, 0));
        due("last byte", pattern(999), t.peek(39, 999));
        due("behind it", 0, t.peek(39, 1000));
        due("at SIZE", 1, t.save(2, 1000, 1));
        due("at 0", 1, t.save(2, 0, 1));
        due("first byte", 1, t.peek(39, 0));
        due("byte 1000", 1, t.peek(39, 1000));
    }

    @Sentence(in = "Promise 10", says = SAVE_NONE)
    private static void saveTooMany() {
        Tree t = withPattern(1000);
        t.fill(0, 3072, 1);
        for (int n : new int[] {-1, -3072, MIN, 3073, 4096, 274432, MAX}) {
            due("n " + n, NONE, t.save(2, 0, n));
            due("n " + n + " at the end", NONE, t.save(2, 1000, n));
        }
        due("size", 1000, t.about(2, 4));
        due("free", 472, t.free());
        due("first byte", pattern(0), t.peek(39, 0));
        due("n 0", 0, t.save(2, 1000, 0));
        due("n 3072", 3072, t.save(2, 1000, 3072));
        due("size", 4072, t.about(2, 4));
    }

    @Sentence(in = "Promise 10", says = SAVE_NONE)
    private static void saveBeyond274432() {
        Tree t = withPattern(274431);
        t.fill(0, 3072, 1);
        due("two behind all but one", NONE, t.save(2, 274431, 2));
        due("3072 before it", NONE, t.save(2, 271361, 3072));
        due("size", 274431, t.about(2, 4));
        due("last block's first byte", pattern(273408), t.peek(307, 0));
        due("the last byte", 1, t.save(2, 274431, 1));
        due("size", 274432, t.about(2, 4));
        due("one behind it", NONE, t.save(2, 274432, 1));
        due("none behind it", 0, t.save(2, 274432, 0));
        due("two of which one is behind it", NONE, t.save(2, 274431, 2));
        due("the last 3072", 3072, t.save(2, 271360, 3072));
        due("one more", NONE, t.save(2, 271361, 3072));
        due("size", 274432, t.about(2, 4));
        due("free", 204, t.free());
        due("last byte of all", 1 + 3071 & 255, t.peek(307, 1023));
    }

    /** What would end beyond is NONE though there is no block for what comes before. */
    @Sentence(in = "Promise 10", says = SAVE_NONE)
    private static void saveBeyond274432WithoutBlocks() {
        Tree t = filled(0, 0);
        due("A is full", NONE, t.save(3, 274432, 1));
        due("over A's end", NONE, t.save(3, 274000, 433));
        due("up to A's end", 432, t.save(3, 274000, 432));
        due("A's size", 274432, t.about(3, 4));
    }

    // ---- Promise 11: clear

    private static final String CLEAR = "A file's bytes are gone, SIZE is 0: true; false if it is no file.";

    @Sentence(in = "Promise 11", says = CLEAR)
    private static void clearFiles() {
        int[] sizes = {0, 1, 1024, 1025, 12288, 12289, 274432};
        for (int size : sizes) {
            Tree t = new Tree();
            t.text("f");
            t.create(1, FILE, 5, 6);
            due("grow", size, t.grow(2, 0, size));
            due("clear", true, t.clear(2));
            dueAbout("cleared", t, 2, 2, 5, 6, 1, 0, 0);
            due("free", 473, t.free());
            for (int k = 0; k < 13; k++) {
                due("number " + k, 0, t.inodeNumber(2, k));
            }
            due("nothing to read", 0, t.read(2, 0, 1));
            due("nothing at 1", NONE, t.save(2, 1, 0));
            due("saved anew", 1, t.save(2, 0, 1));
            due("its block", 39, t.inodeNumber(2, 0));
            due("found", 2, t.find(1, "f"));
        }
    }

    @Sentence(in = "Promise 11", says = CLEAR)
    private static void clearNoFile() {
        Tree t = new Tree();
        t.create("v", DEVICE);
        t.create("d", DIRECTORY);
        t.create("f", FILE);
        t.unlink(1, "f");
        for (int inode : new int[] {0, 1, 2, 3, 4, 63}) {
            due("clear " + inode, false, t.clear(inode));
        }
        for (int inode : NO_INODES) {
            due("clear " + inode, false, t.clear(inode));
        }
        due("the root", 80, t.about(1, 4));
        due("d", 32, t.about(3, 4));
        due("free", 472, t.free());
    }

    // ---- Promise 12: about

    private static final String ABOUT = "Of an inode 0 .. 63, what 0: KIND, 1: MAJOR, 2: MINOR, 3: LINKS, 4: SIZE, 5: how often it is"
            + " held; NONE if there is none such.";

    @Sentence(in = "Promise 12", says = ABOUT)
    private static void aboutEach() {
        Tree t = new Tree();
        t.text("f");
        t.create(1, FILE, 11, 22);
        t.link(1, "f g");
        t.link(1, "f h");
        t.save(2, 0, 2000);
        for (int i = 0; i < 5; i++) {
            t.hold(2);
        }
        dueAbout("f", t, 2, 2, 11, 22, 3, 2000, 5);
        dueAbout("root", t, 1, 1, 0, 0, 2, 80, 0);
        dueAbout("inode 0", t, 0, 0, 0, 0, 0, 0, 0);
        dueAbout("a free one", t, 3, 0, 0, 0, 0, 0, 0);
        dueAbout("inode 63", t, 63, 0, 0, 0, 0, 0, 0);
    }

    @Sentence(in = "Promise 12", says = ABOUT)
    private static void aboutNone() {
        Tree t = new Tree();
        for (int what : new int[] {-1, 6, 7, 256, 65536, MIN, MAX}) {
            due("what " + what, NONE, t.about(1, what));
            due("what " + what + " of a free one", NONE, t.about(63, what));
            due("what " + what + " of inode 0", NONE, t.about(0, what));
        }
        for (int inode : NO_INODES) {
            for (int what = -1; what < 7; what++) {
                due("what " + what + " of " + inode, NONE, t.about(inode, what));
            }
        }
    }

    @Sentence(in = "Promise 12", says = "(MAJOR and MINOR without sign.)")
    private static void aboutWithoutSign() {
        Tree t = new Tree();
        t.text("v");
        t.create(1, DEVICE, -1, 32768);
        t.text("w");
        t.create(1, DEVICE, 32767, -32768);
        due("65535", 65535, t.about(2, 1));
        due("32768", 32768, t.about(2, 2));
        due("32767", 32767, t.about(3, 1));
        due("-32768", 32768, t.about(3, 2));
    }

    // ---- Promise 13: free

    @Sentence(in = "Promise 13", says = "How many blocks are free.")
    private static void freeFromAllToNone() {
        due("new", 473, new Tree().free());
        for (int left = 0; left < 4; left++) {
            due("left", left, filled(0, left).free());
        }
        Tree t = filled(2048, 0);
        due("unlink x", 2, t.unlink(1, "x"));
        due("two", 2, t.free());
        due("clear A", true, t.clear(3));
        due("269 more", 271, t.free());
        due("unlink B", 4, t.unlink(1, "B"));
        due("all but the root's", 473, t.free());
    }

    // ---- Promise 14: forget

    private static final String FORGET = "Nobody holds anything any more, as when the machine starts: how many inodes became free by"
            + " that.";

    @Sentence(in = "Promise 14", says = FORGET)
    private static void forgetNothing() {
        Tree t = new Tree();
        due("new", 0, t.forget());
        t.create("f", FILE);
        due("not held", 0, t.forget());
        t.hold(1);
        t.hold(2);
        due("held, with links", 0, t.forget());
        due("f is not held", 0, t.about(2, 5));
        due("the root is not held", 0, t.about(1, 5));
        due("f stays", 2, t.about(2, 0));
        due("the root stays", 1, t.about(1, 0));
        due("twice", 0, t.forget());
    }

    @Sentence(in = "Promise 14", says = FORGET)
    private static void forgetSome() {
        Tree t = new Tree();
        t.create("d", DIRECTORY);
        t.create("f", FILE);
        t.create("v", DEVICE);
        t.create("g", FILE);
        t.save(3, 0, 3072);
        for (int inode = 1; inode < 6; inode++) {
            t.hold(inode);
            t.hold(inode);
        }
        t.unlink(1, "d");
        t.unlink(1, "f");
        t.unlink(1, "v");
        due("blocks are used", 473 - 4, t.free());
        due("three", 3, t.forget());
        due("blocks are free", 473, t.free());
        for (int inode = 1; inode < 6; inode++) {
            due("kind of " + inode, inode == 1 ? 1 : inode == 5 ? 2 : 0, t.about(inode, 0));
            due("held " + inode, 0, t.about(inode, 5));
        }
        due("none more", 0, t.forget());
    }

    @Sentence(in = "Promise 14", says = FORGET)
    private static void forgetAll() {
        Tree t = new Tree();
        for (int i = 2; i < 64; i++) {
            t.create("f" + i, FILE);
            t.hold(i);
            due("unlink", i, t.unlink(1, "f" + i));
        }
        due("no inode", NONE, t.create("n", FILE));
        due("all but the root", 62, t.forget());
        due("the least", 2, t.create("n", FILE));
    }

    // ---- Promise 15: fill

    private static final String FILL = "n bytes of the buffer from k on become b, b + 1, .. (each modulo 256): true; false if k is not 0"
            + " .. 3072, n is below 0, or not all of them are there.";

    @Sentence(in = "Promise 15", says = FILL)
    private static void fillWraps() {
        int[] starts = {0, 1, 254, 255, 256, 511, -1, -256, -257, MAX, MIN, 65535};
        for (int b : starts) {
            Supplier<Tree> maker = () -> {
                Tree t = new Tree();
                due("fill", true, t.fill(0, 3072, b));
                return t;
            };
            dueBuffer("from " + b, maker, 0, 3072, k -> b + k & 255);
        }
    }

    @Sentence(in = "Promise 15", says = FILL)
    private static void fillEdges() {
        int[][] good = {{0, 0}, {0, 1}, {0, 3071}, {0, 3072}, {1, 3071}, {3071, 1}, {3071, 0}, {3072, 0}, {1024, 2048}};
        int[][] bad = {{-1, 0}, {-1, 1}, {-1, 2}, {3073, 0}, {3073, -1}, {MIN, 0}, {MAX, 0}, {0, -1}, {3072, -1}, {0, MIN},
            {0, 3073}, {1, 3072}, {3071, 2}, {3072, 1}, {0, MAX}, {3072, MAX}, {1, MAX}, {MAX, MAX}, {MIN, MAX}, {MIN, MIN}};
        for (int[] g : good) {
            due("fill " + g[0] + ", " + g[1], true, new Tree().fill(g[0], g[1], 9));
        }
        for (int[] g : bad) {
            due("fill " + g[0] + ", " + g[1], false, new Tree().fill(g[0], g[1], 9));
        }
        Tree t = new Tree();
        for (int[] g : bad) {
            t.fill(g[0], g[1], 9);
        }
        for (int k : new int[] {0, 1, 2, 1000, 3069, 3070, 3071}) {
            due("nothing changed at " + k, 0, t.at(k));
        }
    }

    @Sentence(in = "Promise 15", says = FILL)
    private static void fillNoOthers() {
        Supplier<Tree> maker = () -> {
            Tree t = new Tree();
            t.fill(0, 3072, 0);
            due("some", true, t.fill(1000, 24, 100));
            due("none", true, t.fill(500, 0, 100));
            due("the first", true, t.fill(0, 1, 77));
            due("the last", true, t.fill(3071, 1, 78));
            return t;
        };
        dueBuffer("some", maker, 0, 3072, k -> k == 0 ? 77 : k == 3071 ? 78 : k < 1000 || k >= 1024 ? k & 255 : k - 900);
    }

    // ---- Promise 16: at, Promise 17: peek

    @Sentence(in = "Promise 16", says = "Byte k of the buffer; NONE if there is none.")
    private static void atEdges() {
        Tree t = new Tree();
        t.fill(0, 3072, 128);
        due("the first, without sign", 128, t.at(0));
        due("the last", 127, t.at(3071));
        due("255", 255, t.at(127));
        for (int k : new int[] {-1, -3072, 3072, 3073, 65536, MIN, MAX}) {
            due("at " + k, NONE, t.at(k));
        }
    }

    @Sentence(in = "Promise 17", says = "Byte k of block b; NONE if there is none.")
    private static void peekEdges() {
        Tree t = filled(0, 0);
        due("the first", 0, t.peek(0, 0));
        due("without sign", 255, t.peek(37, 63));
        for (int b : new int[] {-1, -512, 512, 513, 65536, MIN, MAX}) {
            due("block " + b, NONE, t.peek(b, 0));
            due("block " + b + "'s last", NONE, t.peek(b, 1023));
        }
        for (int k : new int[] {-1, -1024, 1024, 1025, 65536, MIN, MAX}) {
            for (int b : new int[] {0, 1, 37, 510, 511}) {
                due("byte " + k + " of " + b, NONE, t.peek(b, k));
            }
        }
        due("none of none", NONE, t.peek(-1, 1024));
        due("none of none", NONE, t.peek(1, -1024));
    }

    @Sentence(in = "Promise 17", says = "Byte k of block b; NONE if there is none.")
    private static void peekLastByteOfAll() {
        Tree t = new Tree();
        t.create("A", FILE);
        t.create("B", FILE);
        t.grow(2, 0, 274432);
        t.grow(3, 0, 202 * 1024);
        t.fill(0, 1024, 5);
        due("the last block", 1024, t.save(3, 202 * 1024, 1024));
        due("its first byte", 5, t.peek(511, 0));
        due("its last byte", 4, t.peek(511, 1023));
        due("none behind", NONE, t.peek(511, 1024));
    }
}
