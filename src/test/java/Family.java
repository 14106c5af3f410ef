/** A table with two families: 1 has 2 and 3 (DISCARDED), 3 has 4, 4 has 6; 5 came by itself. */
final class Family {
    /** Of each SAMPLE what 0 to 4 of sample() are, its VOLUME, and the VOLUME of its whole line. */
    static final int[][] DUE = {
        {0, 10, 2, 0, 1, 40, 90}, {1, 11, 0, 1, 1, 30, 30}, {1, -1, 1, 1, 1, 0, 20},
        {3, 13, 1, 2, 1, 15, 20}, {0, 14, 0, 0, 5, 9, 9}, {4, 0, 0, 3, 1, 5, 5}
    };

    private Family() {
    }

    static Lab begun() {
        Lab x = new Lab(400);
        x.register(10, 100);
        x.aliquot(1, 11, 30);
        x.aliquot(1, 12, 30);
        x.aliquot(3, 13, 20);
        x.register(14, 9);
        x.aliquot(4, 0, 5);
        x.discard(3);
        return x;
    }

    /** The same table as it stands in a journal of ACTS, behind COMPACT, and behind recover() of each. */
    static Lab[] everywhere() {
        Lab[] all = {begun(), begun(), begun(), begun()};
        all[1].recover();
        all[2].compact();
        all[3].compact();
        all[3].recover();
        return all;
    }
}
