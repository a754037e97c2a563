/** Short ways to put MAKES and FILES into a house. */
final class Houses {
    private Houses() {
    }

    /** Feeds the bytes, filled up with zeros to whole feeds of twenty. */
    static int feed(FileHouse house, int... bytes) {
        int fed = 0;
        for (int start = 0; start < Math.max(bytes.length, 1); start += 20) {
            int[] words = new int[5];
            for (int i = 0; i < 20; i++) {
                int value = start + i < bytes.length ? bytes[start + i] : 0;
                words[i / 4] = words[i / 4] << 8 | value;
            }
            fed = house.feed(words[0], words[1], words[2], words[3], words[4]);
        }
        return fed;
    }

    static int make(FileHouse house, int properties, boolean sum, int bends, int... mark) {
        feed(house, mark);
        return house.make(mark.length, properties, sum, bends);
    }

    static int file(FileHouse house, int... bytes) {
        feed(house, bytes);
        return house.file(bytes.length);
    }

    /** MAKES 0 to n - 1 with the marks 10, 11, .. and all PROPERTIES, without SUM or BENDS. */
    static FileHouse withPlainMakes(int n) {
        FileHouse house = new FileHouse();
        for (int m = 0; m < n; m++) {
            make(house, 4095, false, 0, 10 + m);
        }
        return house;
    }
}
