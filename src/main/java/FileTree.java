/**
 * A tree of files on 512 blocks: directories, files and devices under numbered inodes, reached by
 * paths, kept as long as an entry names them or somebody holds them.
 *
 * <p>The classes inside stand on one another: Disk (bytes and the map of blocks), Inodes (what a
 * file has), Directories (entries in files), and beside them Text (what the paths are read from).
 */
public final class FileTree {
    public static final int NONE = -1;

    private static final int BLOCKS = 512;
    private static final int BLOCK_SIZE = 1024;
    private static final int SUPERBLOCK_PLACE = BLOCK_SIZE;
    private static final int INODES_PLACE = 33 * BLOCK_SIZE;
    private static final int MAP_PLACE = 37 * BLOCK_SIZE;
    private static final int FIRST_FILE_BLOCK = 38;
    private static final int[] SUPERBLOCK = {270544960, 512, 474, 64, 31, 2, 33, 37};

    private static final int BYTE = 255;
    private static final int HALF = 65535;

    private static final int FREE = 0;
    private static final int DIRECTORY = 1;
    private static final int FILE = 2;
    private static final int DEVICE = 3;

    private static final int INODES = 64;
    private static final int INODE_SIZE = 64;
    private static final int ROOT = 1;
    private static final int MOST_LINKS = 32767;
    private static final int DIRECT_BLOCKS = 12;
    private static final int MOST_BLOCKS = 268;
    private static final int MOST_BYTES = MOST_BLOCKS * BLOCK_SIZE;

    private static final int ENTRY_SIZE = 16;
    private static final int NAME_SIZE = 14;
    private static final byte[] ITSELF = {46};
    private static final byte[] ABOVE = {46, 46};

    private static final int SLASH = 47;
    private static final int BLANK = 32;
    private static final int DOT = 46;
    private static final int TEXT_SIZE = 260;
    private static final int PATH_SIZE = 128;
    private static final int BUFFER_SIZE = 3072;

    private final Directories directories;
    private final Inodes inodes;
    private final Disk disk;
    private final Text text;
    private final byte[] buffer;

    public FileTree() {
        directories = new Directories();
        inodes = directories.inodes;
        disk = inodes.disk;
        text = new Text();
        buffer = new byte[BUFFER_SIZE];
        disk.format();
        inodes.make(ROOT, DIRECTORY, 0, 0);
        directories.begin(ROOT, ROOT);
    }

    public boolean write(long w) {
        return text.append(w);
    }

    public int find(int from) {
        int inode = lead(from, 0, text.length);
        text.empty();
        return inode;
    }

    public int create(int from, int kind, int major, int minor) {
        int directory = lead(from, 0, text.cutLastName(0, text.length));
        text.empty();
        if (directory == NONE || kind < DIRECTORY || kind > DEVICE) {
            return NONE;
        }
        int entry = directories.entryNamed(directory, text.last);
        if (entry != NONE) {
            int there = disk.partAt(entry, HALF);
            return kind == FILE && inodes.kindOf(there) != DIRECTORY ? there : NONE;
        }
        int inode = inodes.leastFree();
        int ownBlocks = kind == DIRECTORY ? 1 : 0;
        if (inode == NONE || !directories.hasRoom(directory, ownBlocks)) {
            return NONE;
        }
        inodes.make(inode, kind, major, minor);
        if (kind == DIRECTORY) {
            directories.begin(inode, directory);
        }
        directories.addEntry(directory, text.last, inode);
        return inode;
    }

    public int link(int from) {
        int blank = text.firstBlank();
        int inode = lead(from, 0, blank);
        int directory = lead(from, blank + 1, text.cutLastName(blank + 1, text.length));
        text.empty();
        if (inode == NONE || directory == NONE) {
            return NONE;
        }
        if (inodes.kindOf(inode) == DIRECTORY || inodes.linksOf(inode) >= MOST_LINKS) {
            return NONE;
        }
        if (directories.entryNamed(directory, text.last) != NONE || !directories.hasRoom(directory, 0)) {
            return NONE;
        }
        directories.addEntry(directory, text.last, inode);
        inodes.addLinks(inode, 1);
        return inode;
    }

    public int unlink(int from) {
        int directory = lead(from, 0, text.cutLastName(0, text.length));
        text.empty();
        if (directory == NONE || text.lastIsDots()) {
            return NONE;
        }
        int entry = directories.entryNamed(directory, text.last);
        if (entry == NONE) {
            return NONE;
        }
        int inode = disk.partAt(entry, HALF);
        if (inodes.kindOf(inode) == DIRECTORY) {
            if (!directories.hasOnlyItsTwo(inode)) {
                return NONE;
            }
            directories.end(inode, directory);
        }
        directories.wipeEntry(entry);
        inodes.addLinks(inode, -1);
        inodes.freeIfLeft(inode);
        return inode;
    }

    public boolean hold(int inode) {
        if (!inodes.inUse(inode)) {
            return false;
        }
        inodes.addHeld(inode, 1);
        return true;
    }

    public boolean leave(int inode) {
        if (inodes.heldOf(inode) <= 0) {
            return false;
        }
        inodes.addHeld(inode, -1);
        inodes.freeIfLeft(inode);
        return true;
    }

    public int read(int inode, int at, int n) {
        int kind = inodes.kindOf(inode);
        if (kind == FREE || kind == DEVICE || at < 0 || n < 0 || n > BUFFER_SIZE) {
            return NONE;
        }
        int size = inodes.sizeOf(inode);
        if (at >= size) {
            return 0;
        }
        return inodes.bring(inode, at, Math.min(n, size - at), buffer);
    }

    public int save(int inode, int at, int n) {
        if (inodes.kindOf(inode) != FILE || n < 0 || n > BUFFER_SIZE) {
            return NONE;
        }
        if (at < 0 || at > inodes.sizeOf(inode) || at + n > MOST_BYTES) {
            return NONE;
        }
        return inodes.put(inode, at, n, buffer);
    }

    public boolean clear(int inode) {
        if (inodes.kindOf(inode) != FILE) {
            return false;
        }
        inodes.dropBlocks(inode);
        inodes.setSize(inode, 0);
        return true;
    }

    public int about(int inode, int what) {
        if (!inodes.isInode(inode)) {
            return NONE;
        }
        switch (what) {
            case 0:
                return inodes.kindOf(inode);
            case 1:
                return inodes.majorOf(inode);
            case 2:
                return inodes.minorOf(inode);
            case 3:
                return inodes.linksOf(inode);
            case 4:
                return inodes.sizeOf(inode);
            case 5:
                return inodes.heldOf(inode);
            default:
                return NONE;
        }
    }

    public int free() {
        return disk.freeBlocks();
    }

    public int forget() {
        int freed = 0;
        for (int inode = 0; inode < INODES; inode++) {
            inodes.addHeld(inode, -inodes.heldOf(inode));
            if (inodes.freeIfLeft(inode)) {
                freed++;
            }
        }
        return freed;
    }

    public boolean fill(int k, int n, int b) {
        if (k < 0 || k > BUFFER_SIZE || n < 0 || n > BUFFER_SIZE - k) {
            return false;
        }
        for (int i = 0; i < n; i++) {
            buffer[k + i] = (byte) (b + i);
        }
        return true;
    }

    public int at(int k) {
        return k >= 0 && k < BUFFER_SIZE ? buffer[k] & BYTE : NONE;
    }

    public int peek(int b, int k) {
        if (b < 0 || b >= BLOCKS || k < 0 || k >= BLOCK_SIZE) {
            return NONE;
        }
        return disk.partAt(b * BLOCK_SIZE + k, BYTE);
    }

    /** Where the path that the text has from start to end leads to; NONE too if end is NONE. */
    private int lead(int from, int start, int end) {
        if (!inodes.inUse(from) || !text.isPath(start, end)) {
            return NONE;
        }
        int inode = start < end && text.byteAt(start) == SLASH ? ROOT : from;
        for (int k = start; k < end && inode != NONE; k++) {
            if (text.nameBegins(start, k)) {
                text.copyName(text.name, k, end);
                int entry = directories.entryNamed(inode, text.name);
                inode = entry == NONE ? NONE : disk.partAt(entry, HALF);
            }
        }
        return inode;
    }

    /**
     * The bytes of all blocks; a place is a byte's number among them. Numbers have the lowest byte
     * first, so an int holds four bytes just as the number that they are, in a quarter of the room.
     */
    private static final class Disk {
        private final int[] words = new int[BLOCKS * BLOCK_SIZE / 4];

        int numberAt(int place) {
            int word = place >> 2;
            return word >= 0 && word < words.length ? words[word] : 0;
        }

        void setNumber(int place, int number) {
            int word = place >> 2;
            if (word >= 0 && word < words.length) {
                words[word] = number;
            }
        }

        /** One byte (mask BYTE), or two from an even place on (mask HALF), without sign. */
        int partAt(int place, int mask) {
            int word = place >> 2;
            int shift = (place & 3) << 3;
            return word >= 0 && word < words.length ? (words[word] >>> shift) & mask : 0;
        }

        void setPart(int place, int mask, int value) {
            int word = place >> 2;
            int shift = (place & 3) << 3;
            if (word >= 0 && word < words.length) {
                words[word] = (words[word] & ~(mask << shift)) | ((value & mask) << shift);
            }
        }

        void format() {
            for (int i = 0; i < SUPERBLOCK.length; i++) {
                setNumber(SUPERBLOCK_PLACE + 4 * i, SUPERBLOCK[i]);
            }
            for (int block = 0; block < FIRST_FILE_BLOCK; block++) {
                mark(block, true);
            }
        }

        int freeBlocks() {
            int used = 0;
            for (int block = 0; block < BLOCKS; block += 32) {
                used += Integer.bitCount(numberAt(MAP_PLACE + block / 8));
            }
            return BLOCKS - used;
        }

        /** The least free block, with bytes 0; number 0, which a file never has, if none is free. */
        int takeBlock() {
            for (int block = FIRST_FILE_BLOCK; block < BLOCKS; block++) {
                int bit = partAt(MAP_PLACE + block / 8, BYTE) >> (block & 7) & 1;
                if (bit == 0) {
                    mark(block, true);
                    wipe(block * BLOCK_SIZE, BLOCK_SIZE);
                    return block;
                }
            }
            return 0;
        }

        void giveBlock(int block) {
            if (block >= FIRST_FILE_BLOCK && block < BLOCKS) {
                mark(block, false);
            }
        }

        /** Place and length are multiples of 4. */
        void wipe(int place, int length) {
            for (int i = 0; i < length; i += 4) {
                setNumber(place + i, 0);
            }
        }

        private void mark(int block, boolean used) {
            int place = MAP_PLACE + block / 8;
            int bit = 1 << (block & 7);
            int others = partAt(place, BYTE) & ~bit;
            setPart(place, BYTE, used ? others | bit : others);
        }
    }

    /** The inodes, the blocks that they have, and how often each is held (which no block says). */
    private static final class Inodes {
        private static final int KIND = 0;
        private static final int MAJOR = 2;
        private static final int MINOR = 4;
        private static final int LINKS = 6;
        private static final int SIZE = 8;
        private static final int NUMBERS = 12;
        private static final int NUMBER_OF_MORE = NUMBERS + 4 * DIRECT_BLOCKS;

        final Disk disk = new Disk();
        private final int[] held = new int[INODES];

        boolean isInode(int inode) {
            return inode >= 0 && inode < INODES;
        }

        boolean inUse(int inode) {
            return kindOf(inode) != FREE;
        }

        int kindOf(int inode) {
            return isInode(inode) ? disk.partAt(placeOf(inode) + KIND, HALF) : FREE;
        }

        int majorOf(int inode) {
            return isInode(inode) ? disk.partAt(placeOf(inode) + MAJOR, HALF) : 0;
        }

        int minorOf(int inode) {
            return isInode(inode) ? disk.partAt(placeOf(inode) + MINOR, HALF) : 0;
        }

        int linksOf(int inode) {
            return isInode(inode) ? disk.partAt(placeOf(inode) + LINKS, HALF) : 0;
        }

        int sizeOf(int inode) {
            return isInode(inode) ? disk.numberAt(placeOf(inode) + SIZE) : 0;
        }

        int heldOf(int inode) {
            return isInode(inode) ? held[inode] : 0;
        }

        void addLinks(int inode, int more) {
            if (isInode(inode)) {
                disk.setPart(placeOf(inode) + LINKS, HALF, linksOf(inode) + more);
            }
        }

        void setSize(int inode, int size) {
            if (isInode(inode)) {
                disk.setNumber(placeOf(inode) + SIZE, size);
            }
        }

        void addHeld(int inode, int more) {
            if (isInode(inode)) {
                held[inode] += more;
            }
        }

        int leastFree() {
            for (int inode = 1; inode < INODES; inode++) {
                if (!inUse(inode)) {
                    return inode;
                }
            }
            return NONE;
        }

        void make(int inode, int kind, int major, int minor) {
            if (isInode(inode)) {
                int place = placeOf(inode);
                disk.setPart(place + KIND, HALF, kind);
                disk.setPart(place + MAJOR, HALF, major);
                disk.setPart(place + MINOR, HALF, minor);
                disk.setPart(place + LINKS, HALF, 1);
            }
        }

        /** Whether the inode became free by this call: nothing names it, nobody holds it. */
        boolean freeIfLeft(int inode) {
            if (!inUse(inode) || linksOf(inode) != 0 || heldOf(inode) != 0) {
                return false;
            }
            dropBlocks(inode);
            disk.wipe(placeOf(inode), INODE_SIZE);
            return true;
        }

        /** The blocks are free, and keep their bytes: so the one of numbers is only read here. */
        void dropBlocks(int inode) {
            if (!isInode(inode)) {
                return;
            }
            for (int k = 0; k < MOST_BLOCKS; k++) {
                disk.giveBlock(disk.numberAt(slotOf(inode, k)));
            }
            disk.giveBlock(disk.numberAt(placeOf(inode) + NUMBER_OF_MORE));
            disk.wipe(placeOf(inode) + NUMBERS, INODE_SIZE - NUMBERS);
        }

        /** How many blocks it takes to have block k when all before it are there. */
        int blocksToAdd(int k) {
            return k == DIRECT_BLOCKS ? 2 : 1;
        }

        /** Block k comes, those before it being there; false, taking none, if that has no room. */
        boolean addBlock(int inode, int k) {
            if (k >= MOST_BLOCKS || blocksToAdd(k) > disk.freeBlocks()) {
                return false;
            }
            if (k == DIRECT_BLOCKS) {
                disk.setNumber(placeOf(inode) + NUMBER_OF_MORE, disk.takeBlock());
            }
            disk.setNumber(slotOf(inode, k), disk.takeBlock());
            return true;
        }

        /** The place of a file's byte; NONE if it has no block there. */
        int placeOfByte(int inode, int at) {
            int block = disk.numberAt(slotOf(inode, at / BLOCK_SIZE));
            return block == 0 ? NONE : block * BLOCK_SIZE + at % BLOCK_SIZE;
        }

        /** Bytes that the file has come to the row's beginning: how many. */
        int bring(int inode, int at, int n, byte[] row) {
            int end = at + Math.min(n, row.length);
            for (int k = at / BLOCK_SIZE; k * BLOCK_SIZE < end; k++) {
                int first = Math.max(at, k * BLOCK_SIZE);
                int last = Math.min(end, (k + 1) * BLOCK_SIZE);
                int place = placeOfByte(inode, first);
                for (int i = first; i < last; i++) {
                    row[i - at] = (byte) disk.partAt(place + i - first, BYTE);
                }
            }
            return end - at;
        }

        /** The row's beginning comes into the file, as far as there is a block for it: how many. */
        int put(int inode, int at, int n, byte[] row) {
            int end = at + Math.min(n, row.length);
            int done = at;
            for (int k = at / BLOCK_SIZE; k * BLOCK_SIZE < end; k++) {
                if (placeOfByte(inode, done) == NONE && !addBlock(inode, k)) {
                    break;
                }
                int last = Math.min(end, (k + 1) * BLOCK_SIZE);
                int place = placeOfByte(inode, done);
                for (int i = done; i < last; i++) {
                    disk.setPart(place + i - done, BYTE, row[i - at]);
                }
                done = last;
            }
            setSize(inode, Math.max(done, sizeOf(inode)));
            return done - at;
        }

        private int placeOf(int inode) {
            return INODES_PLACE + inode * INODE_SIZE;
        }

        /** The place of the number of block k; NONE if there is no such place (yet). */
        private int slotOf(int inode, int k) {
            if (!isInode(inode) || k < 0 || k >= MOST_BLOCKS) {
                return NONE;
            }
            if (k < DIRECT_BLOCKS) {
                return placeOf(inode) + NUMBERS + 4 * k;
            }
            int more = disk.numberAt(placeOf(inode) + NUMBER_OF_MORE);
            return more == 0 ? NONE : more * BLOCK_SIZE + 4 * (k - DIRECT_BLOCKS);
        }
    }

    /** The entries of directories; an entry is known by its place on the disk. */
    private static final class Directories {
        final Inodes inodes = new Inodes();
        private final Disk disk = inodes.disk;

        /** The first entry with the name; NONE if there is none, or it is no directory. */
        int entryNamed(int directory, byte[] name) {
            int size = sizeOf(directory);
            for (int at = 0; at < size; at += ENTRY_SIZE) {
                int entry = inodes.placeOfByte(directory, at);
                if (disk.partAt(entry, HALF) != 0 && hasName(entry, name)) {
                    return entry;
                }
            }
            return NONE;
        }

        boolean hasOnlyItsTwo(int directory) {
            int size = sizeOf(directory);
            for (int at = 2 * ENTRY_SIZE; at < size; at += ENTRY_SIZE) {
                if (disk.partAt(inodes.placeOfByte(directory, at), HALF) != 0) {
                    return false;
                }
            }
            return true;
        }

        /** Whether it can have one entry more while some blocks are wanted for something else. */
        boolean hasRoom(int directory, int otherBlocks) {
            if (inodes.kindOf(directory) != DIRECTORY || inodes.linksOf(directory) == 0) {
                return false;
            }
            int size = sizeOf(directory);
            int blocks = otherBlocks;
            if (freeEntry(directory) == NONE) {
                if (size > MOST_BYTES - ENTRY_SIZE) {
                    return false;
                }
                if (size % BLOCK_SIZE == 0) {
                    blocks += inodes.blocksToAdd(size / BLOCK_SIZE);
                }
            }
            return blocks <= disk.freeBlocks();
        }

        /** Behind a test of hasRoom. */
        void addEntry(int directory, byte[] name, int inode) {
            int entry = freeEntry(directory);
            if (entry == NONE) {
                int size = sizeOf(directory);
                if (size % BLOCK_SIZE == 0 && !inodes.addBlock(directory, size / BLOCK_SIZE)) {
                    return;
                }
                entry = inodes.placeOfByte(directory, size);
                inodes.setSize(directory, size + ENTRY_SIZE);
            }
            disk.setPart(entry, HALF, inode);
            for (int i = 0; i < NAME_SIZE; i++) {
                disk.setPart(entry + 2 + i, BYTE, nameByte(name, i));
            }
        }

        void wipeEntry(int entry) {
            disk.wipe(entry, ENTRY_SIZE);
        }

        /** A new directory gets its two entries, the second one a link to where it stands. */
        void begin(int directory, int above) {
            addEntry(directory, ITSELF, directory);
            addEntry(directory, ABOVE, above);
            inodes.addLinks(above, 1);
        }

        void end(int directory, int above) {
            wipeEntry(inodes.placeOfByte(directory, 0));
            wipeEntry(inodes.placeOfByte(directory, ENTRY_SIZE));
            inodes.addLinks(above, -1);
        }

        private int sizeOf(int directory) {
            return inodes.kindOf(directory) == DIRECTORY ? inodes.sizeOf(directory) : 0;
        }

        private int freeEntry(int directory) {
            int size = sizeOf(directory);
            for (int at = 0; at < size; at += ENTRY_SIZE) {
                int entry = inodes.placeOfByte(directory, at);
                if (disk.partAt(entry, HALF) == 0) {
                    return entry;
                }
            }
            return NONE;
        }

        private boolean hasName(int entry, byte[] name) {
            for (int i = 0; i < NAME_SIZE; i++) {
                if (disk.partAt(entry + 2 + i, BYTE) != nameByte(name, i)) {
                    return false;
                }
            }
            return true;
        }

        private int nameByte(byte[] name, int i) {
            return i >= 0 && i < name.length ? name[i] & BYTE : 0;
        }
    }

    /** The text, and the names in its paths: they stand in rows that are used again. */
    private static final class Text {
        private final byte[] bytes = new byte[TEXT_SIZE];
        final byte[] name = new byte[NAME_SIZE];
        final byte[] last = new byte[NAME_SIZE];
        int length;

        boolean append(long w) {
            int count = 0;
            for (int shift = 56; shift >= 0; shift -= 8) {
                count += (w >>> shift & BYTE) != 0 ? 1 : 0;
            }
            if (count > bytes.length - length) {
                return false;
            }
            for (int shift = 56; shift >= 0; shift -= 8) {
                byte b = (byte) (w >>> shift);
                if (b != 0 && length >= 0 && length < bytes.length) {
                    bytes[length] = b;
                    length++;
                }
            }
            return true;
        }

        void empty() {
            length = 0;
        }

        int byteAt(int k) {
            return k >= 0 && k < bytes.length ? bytes[k] & BYTE : 0;
        }

        int firstBlank() {
            for (int k = 0; k < length; k++) {
                if (byteAt(k) == BLANK) {
                    return k;
                }
            }
            return NONE;
        }

        boolean isPath(int start, int end) {
            if (end < start || end - start > PATH_SIZE) {
                return false;
            }
            for (int k = start; k < end; k++) {
                if (byteAt(k) == BLANK) {
                    return false;
                }
            }
            return true;
        }

        /** Whether a name of the path that begins at start begins at k. */
        boolean nameBegins(int start, int k) {
            return byteAt(k) != SLASH && (k == start || byteAt(k - 1) == SLASH);
        }

        /** The bytes that count of the name at k, and bytes 0 behind them. */
        void copyName(byte[] row, int k, int end) {
            boolean inName = true;
            for (int i = 0; i < row.length; i++) {
                inName = inName && k + i < end && byteAt(k + i) != SLASH;
                row[i] = inName ? (byte) byteAt(k + i) : 0;
            }
        }

        /** Keeps the path's last name in its row: where it begins; NONE without path or name. */
        int cutLastName(int start, int end) {
            int cut = NONE;
            if (isPath(start, end)) {
                for (int k = start; k < end; k++) {
                    cut = nameBegins(start, k) ? k : cut;
                }
            }
            if (cut != NONE) {
                copyName(last, cut, end);
            }
            return cut;
        }

        boolean lastIsDots() {
            return last[0] == DOT && (last[1] == 0 || last[1] == DOT && last[2] == 0);
        }
    }
}
