/** Tables as large as a bank of 2048 bytes lets them become. */
final class Crowd {
    private Crowd() {
    }

    /** So many SAMPLES of VOLUME 1, all DISCARDED, and a COMPACT at last. */
    static void registered(Lab x, int samples) {
        for (int s = 1; s <= samples; s++) {
            if (x.count(6) + 27 > 2048) {
                x.compact();
            }
            x.register(s % 48, 1);
            x.discard(s);
        }
        x.compact();
        if (x.count(7) != samples || x.count(8) != 0) {
            throw new IllegalStateException("the crowd of " + samples + " is " + x.count(7));
        }
    }

    /**
     * 106 SAMPLES, as many as have room with 19 bytes each: each one an ALIQUOT of the one before it, or all of the
     * first one. For the last DISCARD there is no room.
     */
    static Lab ofAliquots(boolean eachOfTheOneBefore, long volume) {
        Lab x = new Lab(2048);
        x.register(0, volume);
        for (int s = 2; s <= 106; s++) {
            if (x.count(6) + 29 > 2048) {
                x.compact();
            }
            int parent = eachOfTheOneBefore ? s - 1 : 1;
            x.aliquot(parent, s % 2 + 1, eachOfTheOneBefore ? volume : 1);
            x.discard(eachOfTheOneBefore ? s - 1 : s);
        }
        if (x.count(7) != 106) {
            throw new IllegalStateException("the line is " + x.count(7));
        }
        return x;
    }
}
