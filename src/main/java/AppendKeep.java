import java.util.ArrayList;
import java.util.Arrays;

/**
 * A store of keys and values that only appends. The words in capitals (DISK, RECORD, HINT, MARK,
 * WRITE, MERGE, OPENING, ..) are those of the document.
 */
public final class AppendKeep {
    public static final int NONE = -1;

    private static final int DATA = 0;
    private static final int HINT = 1;
    private static final int MARK = 2;

    /** What get() answers of a key whose RECORD is BAD. */
    private static final int IS_BAD = -2;
    /** The VSIZE of a REMOVAL. */
    private static final int REMOVAL = -1;

    /** A RECORD has as many bytes ahead of its key as a HINT's entry has ahead of its own. */
    private static final int HEAD = 14;
    /** A HINT and a MARK have a number ahead of all else and a SUM behind it. */
    private static final int FRAME = 8;
    private static final int NUMBER_BYTES = 4;
    /** A RECORD begins with its SUM, the STAMP is behind that. */
    private static final int STAMP_AT = 4;
    /** A HINT's entry begins with its STAMP, the PLACE is behind that. */
    private static final int PLACE_AT = 4;
    /** Both have the sizes at the same place. */
    private static final int KSIZE_AT = 8;
    private static final int VSIZE_AT = 10;

    private static final int KEY_MOST = 16;
    private static final int VALUE_MOST = 64;
    private static final int STAMP_MOST = 1000000000;
    private static final int TAPE_MOST = 80;
    private static final int FEED_MOST = 16;

    private static final int FIRST_CAPACITY = 4096;
    private static final int FIRST_FILEMOST = 512;
    private static final int SIZE_LEAST = 128;
    private static final int CAPACITY_MOST = 16384;
    private static final int FILEMOST_MOST = 4096;

    /** What the CRC-32's polynomial makes of each half byte. */
    private static final int[] SUM_STEPS = {
        0x00000000, 0x1DB71064, 0x3B6E20C8, 0x26D930AC, 0x76DC4190, 0x6B6B51F4, 0x4DB26158, 0x5005713C,
        0xEDB88320, 0xF00F9344, 0xD6D6A3E8, 0xCB61B38C, 0x9B64C2B0, 0x86D3D2D4, 0xA00AE278, 0xBDBDF21C
    };

    private final Bytes tape = new Bytes();
    /** The tape's bytes while a call that has emptied it uses them. */
    private final Bytes taken = new Bytes();
    private final Bytes found = new Bytes();
    /** The RECORD that a WRITE makes. */
    private final Bytes draft = new Bytes();
    private final Disk disk = new Disk();
    private final Directory directory = new Directory();
    private final Merge merge = new Merge(disk, directory);
    private final Opening opening = new Opening(disk, directory);
    private boolean isOpen;
    private int active;
    private int nextStamp;

    public AppendKeep() {
        begin(FIRST_CAPACITY, FIRST_FILEMOST);
    }

    public void format(int capacity, int fileMost) throws IllegalArgumentException {
        if (capacity < SIZE_LEAST || capacity > CAPACITY_MOST) {
            throw new IllegalArgumentException("capacity is not 128 to 16384");
        }
        if (fileMost < SIZE_LEAST || fileMost > FILEMOST_MOST) {
            throw new IllegalArgumentException("fileMost is not 128 to 4096");
        }
        begin(capacity, fileMost);
    }

    public int feed(int n, long a, long b) throws IllegalArgumentException, UnsupportedOperationException {
        if (n < 1 || n > FEED_MOST) {
            throw new IllegalArgumentException("n is not 1 to 16");
        }
        if (tape.size() + n > TAPE_MOST) {
            throw new UnsupportedOperationException("the tape would have more than 80 bytes");
        }
        for (int i = 0; i < n; i++) {
            long source = i < 8 ? a : b;
            tape.add((int) (source >>> (8 * (i & 7))));
        }
        return tape.size();
    }

    public int put(int keySize) throws IllegalStateException, IllegalArgumentException, UnsupportedOperationException {
        takeTape();
        if (!isOpen) {
            throw new IllegalStateException("the store is not open");
        }
        int valueSize = taken.size() - keySize;
        if (keySize < 1 || keySize > KEY_MOST || valueSize < 0 || valueSize > VALUE_MOST) {
            throw new IllegalArgumentException("no such key or value on the tape");
        }
        if (isFull(recordSize(keySize, valueSize))) {
            throw new UnsupportedOperationException("full");
        }
        int stamp = nextStamp;
        int place = write(keySize, valueSize);
        directory.rowFor(taken, 0, keySize).tell(active, place, valueSize, stamp);
        return stamp;
    }

    public boolean remove() throws IllegalStateException, IllegalArgumentException, UnsupportedOperationException {
        takeTape();
        if (!isOpen) {
            throw new IllegalStateException("the store is not open");
        }
        int keySize = taken.size();
        if (keySize < 1 || keySize > KEY_MOST) {
            throw new IllegalArgumentException("the tape has not 1 to 16 bytes");
        }
        int index = directory.indexOf(taken, 0, keySize);
        if (index < 0) {
            return false;
        }
        if (isFull(recordSize(keySize, REMOVAL))) {
            throw new UnsupportedOperationException("full");
        }
        write(keySize, REMOVAL);
        directory.drop(index);
        return true;
    }

    public int get() throws IllegalStateException {
        takeTape();
        if (!isOpen) {
            throw new IllegalStateException("the store is not open");
        }
        found.clear();
        Row row = directory.row(directory.indexOf(taken, 0, taken.size()));
        if (row == null) {
            return NONE;
        }
        DiskFile data = disk.find(row.number, DATA);
        if (data == null || isBad(row, data.bytes)) {
            return IS_BAD;
        }
        found.addPart(data.bytes, row.place + HEAD + row.key.size(), row.valueSize);
        return found.size();
    }

    public int answer(int i) {
        return found.at(i);
    }

    public int sync() throws IllegalStateException {
        if (!isOpen) {
            throw new IllegalStateException("the store is not open");
        }
        int count = disk.unsynced();
        disk.settle();
        return count;
    }

    public int crash(int kept) throws IllegalStateException, IllegalArgumentException {
        if (!isOpen) {
            throw new IllegalStateException("the store is not open");
        }
        int count = disk.unsynced();
        if (kept < 0 || kept > count) {
            throw new IllegalArgumentException("there are not so many bytes to keep");
        }
        disk.loseLast(count - kept);
        disk.settle();
        isOpen = false;
        forget();
        return count - kept;
    }

    public int open() throws IllegalStateException {
        if (isOpen) {
            throw new IllegalStateException("the store is open");
        }
        opening.clear();
        disk.countNumbers();
        opening.obeyMarks();
        opening.dropLoneHints();
        opening.readFiles();
        directory.dropRemovals();
        nextStamp = opening.greatestStamp + 1;
        isOpen = true;
        return directory.count();
    }

    public int mergeBegin() throws IllegalStateException, UnsupportedOperationException {
        if (!isOpen || merge.underWay) {
            throw new IllegalStateException("the store is not open, or a merge is under way");
        }
        if (disk.countData(disk.nextNumber) == 0) {
            return 0;
        }
        int need = merge.need();
        if (disk.room() < need) {
            throw new UnsupportedOperationException("there is no room to merge");
        }
        active = NONE;
        merge.start(need);
        return merge.unitsLeft();
    }

    public int mergeStep(int n) throws IllegalStateException, IllegalArgumentException {
        if (!isOpen || !merge.underWay) {
            throw new IllegalStateException("the store is not open, or no merge is under way");
        }
        if (n < 1) {
            throw new IllegalArgumentException("n is below 1");
        }
        int units = Math.min(n, merge.unitsLeft());
        for (int i = 0; i < units; i++) {
            merge.doUnit();
        }
        return merge.unitsLeft();
    }

    public int patch(int f, int i, int v) throws IllegalStateException, IndexOutOfBoundsException {
        if (isOpen) {
            throw new IllegalStateException("the store is open");
        }
        DiskFile file = disk.at(f);
        if (file == null || i < 0 || i >= file.bytes.size()) {
            throw new IndexOutOfBoundsException("there is no such byte");
        }
        int was = file.bytes.at(i);
        file.bytes.change(i, v);
        return was;
    }

    public int file(int f, int what) {
        DiskFile file = disk.at(f);
        if (file == null) {
            return NONE;
        }
        switch (what) {
            case 0: return file.number;
            case 1: return file.kind;
            case 2: return file.bytes.size();
            case 3: return file.unsynced;
            default: return NONE;
        }
    }

    public int byteOf(int f, int i) {
        DiskFile file = disk.at(f);
        return file == null ? NONE : file.bytes.at(i);
    }

    public int entry(int i, int what) {
        Row row = directory.row(i);
        if (!isOpen || row == null) {
            return NONE;
        }
        switch (what) {
            case 0: return row.key.size();
            case 1: return row.valueSize;
            case 2: return row.number;
            case 3: return row.place;
            case 4: return row.stamp;
            default: return NONE;
        }
    }

    public int key(int i, int j) {
        Row row = directory.row(i);
        return !isOpen || row == null ? NONE : row.key.at(j);
    }

    public int bad() throws IllegalStateException {
        if (!isOpen) {
            throw new IllegalStateException("the store is not open");
        }
        int count = 0;
        for (int i = 0; i < directory.count(); i++) {
            Row row = directory.row(i);
            DiskFile data = row == null ? null : disk.find(row.number, DATA);
            if (row == null || data == null || isBad(row, data.bytes)) {
                count++;
            }
        }
        return count;
    }

    public int look(int what) {
        switch (what) {
            case 0: return isOpen ? 1 : 0;
            case 1: return disk.capacity;
            case 2: return disk.fileMost;
            case 3: return disk.count();
            case 4: return disk.room();
            case 5: return disk.unsynced();
            case 6: return tape.size();
            case 7: return opening.hintEntries;
            case 8: return opening.records;
            case 9: return opening.cutBytes;
            case 10: return opening.removedFiles;
            default: return isOpen ? lookInside(what) : NONE;
        }
    }

    private int lookInside(int what) {
        switch (what) {
            case 11: return directory.count();
            case 12: return nextStamp;
            case 13: return disk.nextNumber;
            case 14: return active;
            case 15: return merge.output;
            case 16: return merge.unitsLeft();
            case 17: return merge.reserved;
            case 18: return directory.liveBytes();
            case 19: return disk.dataBytes() - directory.liveBytes();
            default: return NONE;
        }
    }

    private void begin(int capacity, int fileMost) {
        disk.clear(capacity, fileMost);
        opening.clear();
        found.clear();
        forget();
        nextStamp = 1;
        isOpen = true;
    }

    /** What is gone when the store is not OPEN. */
    private void forget() {
        directory.clear();
        merge.stop();
        active = NONE;
    }

    private void takeTape() {
        taken.clear();
        taken.addPart(tape, 0, tape.size());
        tape.clear();
    }

    private boolean isFull(int size) {
        return size > disk.room() - merge.reserved || nextStamp > STAMP_MOST;
    }

    /** Writes the RECORD of what was taken from the tape: its PLACE in the ACTIVE file. */
    private int write(int keySize, int valueSize) {
        draft.clear();
        draft.addNumber(0);
        draft.addNumber(nextStamp);
        draft.addShort(keySize);
        draft.addNumber(valueSize);
        draft.addPart(taken, 0, taken.size());
        draft.changeNumber(0, draft.sum(STAMP_AT, draft.size()));
        nextStamp++;
        int place = disk.sizeOf(active, DATA);
        if (active == NONE || place + draft.size() > disk.fileMost) {
            active = disk.takeNumber();
            place = 0;
        }
        disk.append(active, DATA, draft, 0, draft.size());
        return place;
    }

    private static boolean isBad(Row row, Bytes data) {
        int end = row.place + row.recordBytes();
        return end > data.size()
            || data.numberAt(row.place) != data.sum(row.place + STAMP_AT, end)
            || data.numberAt(row.place + STAMP_AT) != row.stamp
            || data.shortAt(row.place + KSIZE_AT) != row.key.size()
            || data.numberAt(row.place + VSIZE_AT) != row.valueSize
            || row.key.compare(data, row.place + HEAD, row.key.size()) != 0;
    }

    private static int recordSize(int keySize, int valueSize) {
        return HEAD + keySize + Math.max(valueSize, 0);
    }

    private static boolean isTold(int stamp, int keySize, int valueSize) {
        return stamp >= 1 && stamp <= STAMP_MOST
            && keySize >= 1 && keySize <= KEY_MOST
            && valueSize >= REMOVAL && valueSize <= VALUE_MOST;
    }

    /** A row of bytes that grows at its end. */
    private static final class Bytes {
        private byte[] row = new byte[KEY_MOST];
        private int size = 0;

        int size() {
            return size;
        }

        int at(int i) {
            return i >= 0 && i < size ? row[i] & 255 : NONE;
        }

        int shortAt(int i) {
            return (at(i) & 255) << 8 | at(i + 1) & 255;
        }

        int numberAt(int i) {
            return shortAt(i) << 16 | shortAt(i + 2);
        }

        void add(int v) {
            makeRoom(1);
            row[size] = (byte) v;
            size++;
        }

        void addShort(int v) {
            add(v >>> 8);
            add(v);
        }

        void addNumber(int v) {
            add(v >>> 24);
            add(v >>> 16);
            add(v >>> 8);
            add(v);
        }

        void addPart(Bytes source, int from, int n) {
            if (from < 0 || n < 0 || from > source.size - n) {
                return;
            }
            makeRoom(n);
            System.arraycopy(source.row, from, row, size, n);
            size += n;
        }

        void change(int i, int v) {
            if (i >= 0 && i < size) {
                row[i] = (byte) v;
            }
        }

        void changeNumber(int i, int v) {
            for (int j = 0; j < NUMBER_BYTES; j++) {
                change(i + j, v >>> (24 - 8 * j));
            }
        }

        void cutTo(int n) {
            if (n >= 0 && n < size) {
                size = n;
            }
        }

        void clear() {
            size = 0;
        }

        /** The SUM of the bytes from the first index on up to the second one. */
        int sum(int from, int to) {
            int rest = -1;
            for (int i = from; i < to; i++) {
                rest ^= at(i) & 255;
                rest = rest >>> 4 ^ SUM_STEPS[rest & 15];
                rest = rest >>> 4 ^ SUM_STEPS[rest & 15];
            }
            return ~rest;
        }

        /** Below 0, 0 or above 0: this is ahead of those n bytes, the same, or behind them. */
        int compare(Bytes other, int from, int n) {
            int both = Math.min(size, n);
            for (int i = 0; i < both; i++) {
                int difference = at(i) - other.at(from + i);
                if (difference != 0) {
                    return difference;
                }
            }
            return size - n;
        }

        private void makeRoom(int n) {
            if (size + n > row.length) {
                row = Arrays.copyOf(row, Math.max(size + n, 2 * row.length));
            }
        }
    }

    private static final class DiskFile {
        private final Bytes bytes = new Bytes();
        private int number;
        private int kind;
        private int unsynced;

        boolean isOf(int otherNumber, int otherKind) {
            return number == otherNumber && kind == otherKind;
        }
    }

    /** Bytes that came to one file, ahead of any that came to another one. */
    private static final class Arrival {
        private DiskFile file;
        private int count;

        /** The last n of them go. */
        void lose(int n) {
            if (file != null) {
                file.bytes.cutTo(file.bytes.size() - n);
            }
        }
    }

    /** THE DISK: its files in their order, and in which order the UNSYNCED bytes came. */
    private static final class Disk {
        private final ArrayList<DiskFile> files = new ArrayList<>();
        /** Files that are gone, to be used again: a run of merges would make too many. */
        private final ArrayList<DiskFile> spares = new ArrayList<>();
        /** Those ahead of arrivalCount count, the others wait to be used again. */
        private final ArrayList<Arrival> arrivals = new ArrayList<>();
        private int arrivalCount;
        private int capacity;
        private int fileMost;
        private int nextNumber;

        void clear(int newCapacity, int newFileMost) {
            for (int i = files.size() - 1; i >= 0; i--) {
                discardAt(i);
            }
            arrivalCount = 0;
            capacity = newCapacity;
            fileMost = newFileMost;
            nextNumber = 1;
        }

        int count() {
            return files.size();
        }

        DiskFile at(int i) {
            return i >= 0 && i < files.size() ? files.get(i) : null;
        }

        DiskFile find(int number, int kind) {
            DiskFile file = at(placeFor(number, kind));
            return file != null && file.isOf(number, kind) ? file : null;
        }

        int sizeOf(int number, int kind) {
            DiskFile file = find(number, kind);
            return file == null ? 0 : file.bytes.size();
        }

        int room() {
            int room = capacity;
            for (int i = 0; i < files.size(); i++) {
                room -= files.get(i).bytes.size();
            }
            return room;
        }

        int unsynced() {
            int count = 0;
            for (int i = 0; i < files.size(); i++) {
                count += files.get(i).unsynced;
            }
            return count;
        }

        int dataBytes() {
            int count = 0;
            for (int i = 0; i < files.size(); i++) {
                DiskFile file = files.get(i);
                count += file.kind == DATA ? file.bytes.size() : 0;
            }
            return count;
        }

        /** How many DATA files have a NUMBER below the limit. */
        int countData(int limit) {
            int count = 0;
            for (int i = 0; i < files.size(); i++) {
                DiskFile file = files.get(i);
                count += file.kind == DATA && file.number < limit ? 1 : 0;
            }
            return count;
        }

        DiskFile firstOf(int kind) {
            for (int i = 0; i < files.size(); i++) {
                DiskFile file = files.get(i);
                if (file.kind == kind) {
                    return file;
                }
            }
            return null;
        }

        int takeNumber() {
            nextNumber++;
            return nextNumber - 1;
        }

        void countNumbers() {
            DiskFile last = at(files.size() - 1);
            nextNumber = last == null ? 1 : last.number + 1;
        }

        void append(int number, int kind, Bytes source, int from, int n) {
            int place = placeFor(number, kind);
            DiskFile file = at(place);
            if (file == null || !file.isOf(number, kind)) {
                file = takeSpare();
                file.number = number;
                file.kind = kind;
                files.add(place, file);
            }
            file.bytes.addPart(source, from, n);
            file.unsynced += n;
            noteArrival(file, n);
        }

        boolean discard(int number, int kind) {
            int place = placeFor(number, kind);
            DiskFile file = at(place);
            if (file == null || !file.isOf(number, kind)) {
                return false;
            }
            discardAt(place);
            return true;
        }

        /** All bytes are synced. */
        void settle() {
            for (int i = 0; i < files.size(); i++) {
                files.get(i).unsynced = 0;
            }
            arrivalCount = 0;
        }

        /** The n UNSYNCED bytes that came last go. */
        void loseLast(int n) {
            int left = n;
            for (int i = arrivalCount - 1; i >= 0 && left > 0; i--) {
                Arrival arrival = arrivalAt(i);
                if (arrival != null) {
                    int lost = Math.min(left, arrival.count);
                    arrival.lose(lost);
                    left -= lost;
                }
            }
            for (int i = files.size() - 1; i >= 0; i--) {
                if (files.get(i).bytes.size() == 0) {
                    discardAt(i);
                }
            }
        }

        /** Where such a file is, or would be. */
        private int placeFor(int number, int kind) {
            for (int i = 0; i < files.size(); i++) {
                DiskFile file = files.get(i);
                if (file.number > number || file.number == number && file.kind >= kind) {
                    return i;
                }
            }
            return files.size();
        }

        private void discardAt(int i) {
            if (i >= 0 && i < files.size()) {
                spares.add(files.remove(i));
            }
        }

        private DiskFile takeSpare() {
            if (spares.isEmpty()) {
                return new DiskFile();
            }
            DiskFile file = spares.remove(spares.size() - 1);
            file.bytes.clear();
            file.unsynced = 0;
            return file;
        }

        // No file with UNSYNCED bytes is ever REMOVED (a MERGE syncs ahead of its REMOVALS, and
        // OPENINGS come behind crashes), so an arrival's file is on the disk while it counts.
        private void noteArrival(DiskFile file, int n) {
            Arrival last = arrivalAt(arrivalCount - 1);
            if (last != null && last.file == file) {
                last.count += n;
                return;
            }
            Arrival next = arrivalAt(arrivalCount);
            if (next == null) {
                next = new Arrival();
                arrivals.add(next);
            }
            next.file = file;
            next.count = n;
            arrivalCount++;
        }

        private Arrival arrivalAt(int i) {
            return i >= 0 && i < arrivals.size() ? arrivals.get(i) : null;
        }
    }

    /** What the DIRECTORY has of a key. */
    private static final class Row {
        private final Bytes key = new Bytes();
        private int number;
        private int place;
        private int valueSize;
        private int stamp;

        void tell(int newNumber, int newPlace, int newValueSize, int newStamp) {
            number = newNumber;
            place = newPlace;
            valueSize = newValueSize;
            stamp = newStamp;
        }

        int recordBytes() {
            return recordSize(key.size(), valueSize);
        }

        boolean liesAhead(Row other) {
            return number < other.number || number == other.number && place < other.place;
        }
    }

    /** The DIRECTORY, by key; while an OPENING goes on also what it READ of REMOVALS. */
    private static final class Directory {
        private final ArrayList<Row> rows = new ArrayList<>();
        /** Rows that are gone, to be used again: a run of openings would make too many. */
        private final ArrayList<Row> spares = new ArrayList<>();

        int count() {
            return rows.size();
        }

        Row row(int i) {
            return i >= 0 && i < rows.size() ? rows.get(i) : null;
        }

        /** The key's index; if it is not there, -1 less the index that it would have. */
        int indexOf(Bytes source, int from, int n) {
            int low = 0;
            int high = rows.size();
            for (int turn = rows.size(); turn > 0 && low < high; turn--) {
                int middle = (low + high) >>> 1;
                int order = rows.get(middle).key.compare(source, from, n);
                if (order == 0) {
                    return middle;
                }
                if (order < 0) {
                    low = middle + 1;
                } else {
                    high = middle;
                }
            }
            return -1 - low;
        }

        /** The key's row; a new one has STAMP 0, which is below all that are told. */
        Row rowFor(Bytes source, int from, int n) {
            int index = indexOf(source, from, n);
            if (index >= 0) {
                return rows.get(index);
            }
            Row row = spares.isEmpty() ? new Row() : spares.remove(spares.size() - 1);
            row.key.clear();
            row.key.addPart(source, from, n);
            row.tell(0, 0, 0, 0);
            rows.add(-1 - index, row);
            return row;
        }

        void drop(int i) {
            if (i >= 0 && i < rows.size()) {
                spares.add(rows.remove(i));
            }
        }

        void clear() {
            for (int i = rows.size() - 1; i >= 0; i--) {
                drop(i);
            }
        }

        void dropRemovals() {
            for (int i = rows.size() - 1; i >= 0; i--) {
                if (rows.get(i).valueSize == REMOVAL) {
                    drop(i);
                }
            }
        }

        int liveBytes() {
            int sum = 0;
            for (int i = 0; i < rows.size(); i++) {
                sum += rows.get(i).recordBytes();
            }
            return sum;
        }

        /** How many RECORDS lie in files with a NUMBER below the limit. */
        int countBelow(int limit) {
            int count = 0;
            for (int i = 0; i < rows.size(); i++) {
                count += rows.get(i).number < limit ? 1 : 0;
            }
            return count;
        }

        /**
         * By NUMBER, PLACE and key: the index of the RECORD behind that of the index (NONE: of the
         * first one) among those below the limit, or NONE.
         */
        int nextBelow(int limit, int index) {
            int best = NONE;
            for (int i = 0; i < rows.size(); i++) {
                boolean isBehind = index < 0 || isAhead(index, i);
                if (rows.get(i).number < limit && isBehind && (best < 0 || isAhead(i, best))) {
                    best = i;
                }
            }
            return best;
        }

        private boolean isAhead(int i, int j) {
            Row one = row(i);
            Row other = row(j);
            if (one == null || other == null) {
                return false;
            }
            return one.liesAhead(other) || i < j && !other.liesAhead(one);
        }
    }

    /**
     * A MERGE. All that is new behind its beginning has a NUMBER not below the limit, so DATA files
     * below it are its INPUTS, and RECORDS below it are those that are to be copied still.
     */
    private static final class Merge {
        private final Disk disk;
        private final Directory directory;
        private final Bytes hint = new Bytes();
        private final Bytes mark = new Bytes();
        private boolean underWay;
        private int limit;
        private int output;
        private int markNumber;
        private int hintEntries;
        private int reserved;

        Merge(Disk disk, Directory directory) {
            this.disk = disk;
            this.directory = directory;
        }

        int need() {
            int all = disk.nextNumber;
            int need = FRAME + NUMBER_BYTES * disk.countData(all);
            int filled = 0;
            int index = NONE;
            for (int turn = directory.count(); turn > 0; turn--) {
                index = directory.nextBelow(all, index);
                Row row = directory.row(index);
                if (row == null) {
                    return need;
                }
                int size = row.recordBytes();
                if (filled == 0 || filled + size > disk.fileMost) {
                    need += FRAME;
                    filled = 0;
                }
                filled += size;
                need += size + HEAD + row.key.size();
            }
            return need;
        }

        void start(int need) {
            underWay = true;
            limit = disk.nextNumber;
            reserved = need;
        }

        void stop() {
            underWay = false;
            limit = 0;
            output = NONE;
            markNumber = NONE;
            reserved = 0;
        }

        int unitsLeft() {
            if (!underWay) {
                return 0;
            }
            int removals = disk.countData(limit) + 1;
            return markNumber == NONE ? directory.countBelow(limit) + 1 + removals : removals;
        }

        void doUnit() {
            if (markNumber != NONE) {
                removeNext();
                return;
            }
            Row row = directory.row(directory.nextBelow(limit, NONE));
            if (row != null) {
                copy(row);
            } else {
                finish();
            }
        }

        private void copy(Row row) {
            int size = row.recordBytes();
            int place = disk.sizeOf(output, DATA);
            if (output == NONE || place + size > disk.fileMost) {
                writeHint();
                output = disk.takeNumber();
                place = 0;
            }
            DiskFile source = disk.find(row.number, DATA);
            if (source != null) {
                disk.append(output, DATA, source.bytes, row.place, size);
                reserved -= size;
            }
            row.tell(output, place, row.valueSize, row.stamp);
            noteForHint(row);
        }

        /** Kept from copy to copy, as the HINT tells of RECORDS that are not LIVE any more too. */
        private void noteForHint(Row row) {
            if (row.place == 0) {
                hintEntries = 0;
                hint.clear();
                hint.addNumber(0);
            }
            hint.addNumber(row.stamp);
            hint.addNumber(row.place);
            hint.addShort(row.key.size());
            hint.addNumber(row.valueSize);
            hint.addPart(row.key, 0, row.key.size());
            hintEntries++;
        }

        private void writeHint() {
            if (output == NONE) {
                return;
            }
            hint.changeNumber(0, hintEntries);
            hint.addNumber(hint.sum(0, hint.size()));
            disk.append(output, HINT, hint, 0, hint.size());
            reserved -= hint.size();
        }

        private void finish() {
            writeHint();
            output = NONE;
            mark.clear();
            mark.addNumber(disk.countData(limit));
            for (int i = 0; i < disk.count(); i++) {
                DiskFile file = disk.at(i);
                if (file != null && file.kind == DATA && file.number < limit) {
                    mark.addNumber(file.number);
                }
            }
            mark.addNumber(mark.sum(0, mark.size()));
            markNumber = disk.takeNumber();
            disk.append(markNumber, MARK, mark, 0, mark.size());
            disk.settle();
            reserved = 0;
        }

        private void removeNext() {
            DiskFile input = disk.firstOf(DATA);
            if (input == null || input.number >= limit) {
                disk.discard(markNumber, MARK);
                stop();
                return;
            }
            int number = input.number;
            disk.discard(number, DATA);
            disk.discard(number, HINT);
        }
    }

    /** An OPENING, and what it counted. */
    private static final class Opening {
        private final Disk disk;
        private final Directory directory;
        private int hintEntries;
        private int records;
        private int cutBytes;
        private int removedFiles;
        private int greatestStamp;

        Opening(Disk disk, Directory directory) {
            this.disk = disk;
            this.directory = directory;
        }

        void clear() {
            hintEntries = 0;
            records = 0;
            cutBytes = 0;
            removedFiles = 0;
            greatestStamp = 0;
        }

        void obeyMarks() {
            for (int turn = disk.count(); turn > 0; turn--) {
                DiskFile mark = disk.firstOf(MARK);
                if (mark == null) {
                    return;
                }
                if (isGoodMark(mark.bytes)) {
                    removeNamed(mark.bytes);
                }
                discard(mark.number, MARK);
            }
        }

        void dropLoneHints() {
            for (int i = disk.count() - 1; i >= 0; i--) {
                DiskFile file = disk.at(i);
                if (file != null && file.kind == HINT && disk.find(file.number, DATA) == null) {
                    discard(file.number, HINT);
                }
            }
        }

        void readFiles() {
            int i = 0;
            for (int turn = disk.count(); turn > 0; turn--) {
                DiskFile file = disk.at(i);
                if (file == null) {
                    return;
                }
                DiskFile hint = file.kind == DATA ? disk.find(file.number, HINT) : null;
                if (hint != null && isGoodHint(hint.bytes, file.bytes.size())) {
                    readHint(hint);
                } else if (file.kind == DATA) {
                    discard(file.number, HINT);
                    readRecords(file);
                }
                // A file that was cut to nothing has left its place to the next one.
                if (disk.at(i) == file) {
                    i++;
                }
            }
        }

        private void readHint(DiskFile hint) {
            Bytes bytes = hint.bytes;
            int end = bytes.size() - NUMBER_BYTES;
            for (int at = NUMBER_BYTES; at < end; at += HEAD + bytes.shortAt(at + KSIZE_AT)) {
                Row row = directory.rowFor(bytes, at + HEAD, bytes.shortAt(at + KSIZE_AT));
                int place = bytes.numberAt(at + PLACE_AT);
                read(row, hint.number, place, bytes.numberAt(at + VSIZE_AT), bytes.numberAt(at));
                hintEntries++;
            }
        }

        private void readRecords(DiskFile data) {
            Bytes bytes = data.bytes;
            int at = 0;
            for (int turn = bytes.size(); turn > 0 && isWhole(bytes, at); turn--) {
                int keySize = bytes.shortAt(at + KSIZE_AT);
                int valueSize = bytes.numberAt(at + VSIZE_AT);
                Row row = directory.rowFor(bytes, at + HEAD, keySize);
                read(row, data.number, at, valueSize, bytes.numberAt(at + STAMP_AT));
                records++;
                at += recordSize(keySize, valueSize);
            }
            cutBytes += bytes.size() - at;
            bytes.cutTo(at);
            if (at == 0) {
                discard(data.number, DATA);
            }
        }

        private void read(Row row, int number, int place, int valueSize, int stamp) {
            if (stamp >= row.stamp) {
                row.tell(number, place, valueSize, stamp);
            }
            greatestStamp = Math.max(greatestStamp, stamp);
        }

        private void removeNamed(Bytes mark) {
            int end = mark.size() - NUMBER_BYTES;
            for (int at = NUMBER_BYTES; at < end; at += NUMBER_BYTES) {
                int number = mark.numberAt(at);
                discard(number, DATA);
                discard(number, HINT);
            }
        }

        private void discard(int number, int kind) {
            if (disk.discard(number, kind)) {
                removedFiles++;
            }
        }

        private static boolean isGoodMark(Bytes mark) {
            int end = mark.size() - NUMBER_BYTES;
            return end >= NUMBER_BYTES
                && mark.size() == (long) NUMBER_BYTES * mark.numberAt(0) + FRAME
                && mark.numberAt(end) == mark.sum(0, end);
        }

        private static boolean isGoodHint(Bytes hint, int dataSize) {
            int end = hint.size() - NUMBER_BYTES;
            if (end < NUMBER_BYTES || hint.numberAt(end) != hint.sum(0, end)) {
                return false;
            }
            int count = 0;
            for (int at = NUMBER_BYTES; at < end; at += HEAD + hint.shortAt(at + KSIZE_AT)) {
                if (!isGoodEntry(hint, at, end, dataSize)) {
                    return false;
                }
                count++;
            }
            return count == hint.numberAt(0);
        }

        private static boolean isGoodEntry(Bytes hint, int at, int end, int dataSize) {
            if (at + HEAD > end) {
                return false;
            }
            int place = hint.numberAt(at + PLACE_AT);
            int keySize = hint.shortAt(at + KSIZE_AT);
            int valueSize = hint.numberAt(at + VSIZE_AT);
            return isTold(hint.numberAt(at), keySize, valueSize)
                && at + HEAD + keySize <= end
                && place >= 0 && place <= dataSize - recordSize(keySize, valueSize);
        }

        private static boolean isWhole(Bytes data, int at) {
            if (at + HEAD > data.size()) {
                return false;
            }
            int keySize = data.shortAt(at + KSIZE_AT);
            int valueSize = data.numberAt(at + VSIZE_AT);
            if (!isTold(data.numberAt(at + STAMP_AT), keySize, valueSize)) {
                return false;
            }
            int end = at + recordSize(keySize, valueSize);
            return end <= data.size() && data.numberAt(at) == data.sum(at + STAMP_AT, end);
        }
    }
}
