import java.util.ArrayList;
import java.util.List;

/** Promise 6: undo. */
public final class UndoTest {
    private static final Due DUE = new Due("promise 6");
    private static final long MAX = Long.MAX_VALUE;

    public static void main(String[] args) {
        backToTheBeginning();
        eachOfTheFour();
        notUndone();
        whatIsNoAct();
        sinceCompact();
        actsThatWereCut();
        none();
        room();
        leastRefusal();
        mostActs();
        longestWayBack();
        PowerCuts.ofRecord(DUE, UndoTest::begun, Lab::undo, 8);
        DUE.end();
    }

    private static Lab begun() {
        Lab x = new Lab(150);
        x.register(0, 10);
        x.compact();
        x.aliquot(1, 1, 4);
        x.discard(1);
        return x;
    }

    private static void act(Lab x, int i) {
        switch (i) {
            case 0: x.register(0, 100); break;
            case 1: x.aliquot(1, 1, 40); break;
            case 2: x.move(1, 5); break;
            case 3: x.aliquot(2, 0, 40); break;
            case 4: x.discard(1); break;
            case 5: x.register(5, 7); break;
            case 6: x.move(3, 47); break;
            case 7: x.discard(3); break;
            default: x.discard(2); break;
        }
    }

    private static void backToTheBeginning() {
        DUE.sentence("is as if it had not been: how many can be undone still");
        Lab x = new Lab(2048);
        List<List<Long>> before = new ArrayList<>();
        for (int i = 0; i < 9; i++) {
            before.add(Look.table(x));
            act(x, i);
        }
        for (int i = 8; i >= 0; i--) {
            int end = x.count(6);
            DUE.is("undo() of act " + i, x.undo(), i);
            DUE.is("an UNDO is 8 bytes", x.count(6), end + 8);
            DUE.holds("the table ahead of act " + i, Look.table(x).equals(before.get(i)));
            DUE.is("recover() behind undo", x.recover(), 9 + 9 - i);
            DUE.holds("and behind recover()", Look.table(x).equals(before.get(i)));
        }
        DUE.is("none is left", x.undo(), -7);
    }

    /** What each ACT changed at its edges comes back: the greatest VOLUME, a VOLUME of 0, the outmost WELLS. */
    private static void eachOfTheFour() {
        DUE.sentence("the latest ACT of these four");
        Lab x = new Lab(300);
        x.register(47, MAX);
        DUE.is("undo() of REGISTER", x.undo(), 0);
        DUE.is("count(7)", x.count(7), 0);
        DUE.is("well(47)", x.well(47), -1);
        DUE.is("its VOLUME is free again", x.register(47, MAX), 1);
        x.aliquot(1, 0, MAX);
        DUE.is("undo() of ALIQUOT", x.undo(), 1);
        DUE.is("volume(1)", x.volume(1), MAX);
        DUE.is("volume(2)", x.volume(2), -1);
        DUE.is("well(0)", x.well(0), -1);
        DUE.is("sample(1, 2)", x.sample(1, 2), 0);
        x.move(1, 0);
        DUE.is("undo() of MOVE", x.undo(), 1);
        DUE.is("well(47)", x.well(47), 1);
        DUE.is("well(0)", x.well(0), -1);
        x.discard(1);
        DUE.is("undo() of DISCARD", x.undo(), 1);
        DUE.is("volume(1)", x.volume(1), MAX);
        DUE.is("well(47)", x.well(47), 1);
        DUE.is("total(1, 0)", x.total(1, 0), 0);
        x.aliquot(1, 0, MAX);
        x.discard(1);
        DUE.is("undo() of the DISCARD of VOLUME 0", x.undo(), 2);
        DUE.is("volume(1)", x.volume(1), 0);
        DUE.is("well(47)", x.well(47), 1);
    }

    private static void notUndone() {
        DUE.sentence("that was not undone");
        Lab x = new Lab(200);
        x.register(0, 5);
        x.register(1, 6);
        DUE.is("undo()", x.undo(), 1);
        DUE.is("the number comes again", x.register(2, 7), 2);
        DUE.is("volume(2)", x.volume(2), 7);
        DUE.is("undo() does not undo an UNDO", x.undo(), 1);
        DUE.is("undo()", x.undo(), 0);
        DUE.is("undo()", x.undo(), -7);
        Bytes.due(DUE, x, 0, Bytes.head(1), Bytes.register(0, 5), Bytes.register(1, 6), Bytes.undo(),
            Bytes.register(2, 7), Bytes.undo(), Bytes.undo());
        Bytes.due(DUE, x, 1);
        DUE.is("recover()", x.recover(), 6);
        DUE.is("count(7)", x.count(7), 0);
        DUE.is("count(9)", x.count(9), 0);
    }

    private static void whatIsNoAct() {
        DUE.sentence("the latest ACT of these four on the table");
        Lab x = new Lab(200);
        x.register(0, 5);
        x.register(0, 5);
        x.move(1, 0);
        x.discard(2);
        DUE.is("refused ones cannot be undone", x.count(9), 1);
        x.cut(500);
        x.recover();
        DUE.is("nor cut() and recover()", x.undo(), 0);
        DUE.is("count(7)", x.count(7), 0);
    }

    private static void sinceCompact() {
        DUE.sentence("since COMPACT; (Nothing can be undone then.)");
        Lab x = new Lab(200);
        x.register(0, 5);
        x.register(1, 5);
        x.compact();
        DUE.is("count(9)", x.count(9), 0);
        DUE.is("nothing since COMPACT", x.undo(), -7);
        x.recover();
        DUE.is("nor behind recover()", x.undo(), -7);
        x.discard(1);
        x.register(0, 2);
        DUE.is("undo()", x.undo(), 1);
        x.recover();
        DUE.is("undo()", x.undo(), 0);
        DUE.is("well(0)", x.well(0), 1);
        DUE.is("volume(1)", x.volume(1), 5);
        DUE.is("total(1, 0)", x.total(1, 0), 0);
        DUE.is("undo()", x.undo(), -7);
        x.recover();
        DUE.is("nor behind recover()", x.undo(), -7);
        Lab refused = Lab.withRoom(8, UndoTest::threeWells);
        DUE.is("a COMPACT that is refused", refused.compact(), -6);
        DUE.is("takes nothing away", refused.undo(), 2);
    }

    private static void actsThatWereCut() {
        DUE.sentence("the latest ACT that was not undone");
        Lab x = new Lab(200);
        x.register(0, 5);
        x.cut(10);
        x.move(1, 1);
        x.recover();
        DUE.is("a MOVE less its last byte is none", x.count(9), 1);
        x.cut(11);
        x.move(1, 1);
        x.recover();
        DUE.is("a MOVE with its last byte is one", x.count(9), 2);
        DUE.is("undo()", x.undo(), 1);
        DUE.is("well(0)", x.well(0), 1);
        x.cut(8);
        DUE.is("an UNDO with its last byte", x.undo(), -1);
        x.recover();
        DUE.is("is done", x.count(9), 0);
        DUE.is("count(7)", x.count(7), 0);
        Lab half = new Lab(200);
        half.register(0, 5);
        half.cut(200);
        half.compact();
        half.recover();
        DUE.is("a COMPACT less its HEAD takes nothing away", half.undo(), 0);
    }

    private static void none() {
        DUE.sentence("7 there is none");
        Lab x = new Lab(64);
        DUE.is("of a new object", x.undo(), -7);
        x.cut(0);
        DUE.is("it writes no byte", x.undo(), -7);
        DUE.is("count(0)", x.count(0), 1);
        x.recover();
        DUE.is("behind recover()", x.undo(), -7);
        x.register(0, 1);
        DUE.is("undo()", x.undo(), 0);
        DUE.is("undo()", x.undo(), -7);
        DUE.is("count(2)", x.count(2), 25);
    }

    private static void room() {
        DUE.sentence("6 no room");
        Lab full = Lab.withRoom(8, UndoTest::threeWells);
        DUE.is("8 bytes are room", full.undo(), 2);
        DUE.is("the bank is full", full.count(6), full.count(1));
        DUE.is("0 bytes are none", full.undo(), -6);
        DUE.is("recover()", full.recover(), 4);
        DUE.is("count(9)", full.count(9), 2);
        DUE.is("7 bytes are none", Lab.withRoom(7, UndoTest::threeWells).undo(), -6);
    }

    private static void threeWells(Lab x) {
        x.register(0, 1);
        x.register(1, 1);
        x.register(2, 1);
    }

    private static void twoUndone(Lab x) {
        x.register(0, 1);
        x.undo();
        x.register(1, 1);
        x.undo();
    }

    private static void oneOfTwo(Lab x) {
        x.register(0, 1);
        x.register(1, 1);
        x.undo();
        x.move(1, 9);
        x.undo();
    }

    private static void leastRefusal() {
        DUE.sentence("the least of those that hold, and nothing is written: 7 there is none; 6");
        int[] rooms = {5, 6, 7, 8, 9, 10, 11};
        for (int room : rooms) {
            Refusals.due(DUE, () -> Lab.withRoom(room, UndoTest::twoUndone), "undo() of none", Lab::undo,
                room < 8 ? -6 : -7);
            Refusals.due(DUE, () -> Lab.withRoom(room, UndoTest::oneOfTwo), "undo() of one", Lab::undo,
                room < 8 ? -6 : 0);
        }
    }

    /** A MOVE is the shortest ACT that can come again and again: 1 REGISTER and 183 of them, and room for one UNDO. */
    private static void mostActs() {
        DUE.sentence("how many can be undone still");
        Lab x = new Lab(2048);
        x.register(0, 1);
        for (int i = 1; i <= 183; i++) {
            DUE.is("move(1, " + i % 48 + ")", x.move(1, i % 48), 0);
            DUE.is("count(9)", x.count(9), i + 1);
        }
        DUE.is("undo()", x.undo(), 183);
        DUE.is("well(182 % 48)", x.well(182 % 48), 1);
        DUE.is("count(6)", x.count(6), 2047);
        DUE.is("recover()", x.recover(), 185);
        DUE.is("count(9)", x.count(9), 183);
        DUE.is("undo()", x.undo(), -6);
    }

    /** 1 REGISTER, 106 MOVES and 107 UNDOS fill a bank of 2048 to its last byte. */
    private static void longestWayBack() {
        DUE.sentence("how many can be undone still");
        Lab x = new Lab(2048);
        x.register(0, 1);
        for (int i = 1; i <= 106; i++) {
            x.move(1, i % 48);
        }
        for (int i = 106; i >= 0; i--) {
            DUE.is("undo()", x.undo(), i);
            DUE.is("well(" + (i == 0 ? 0 : (i - 1) % 48) + ")", x.well(i == 0 ? 0 : (i - 1) % 48), i == 0 ? -1 : 1);
        }
        DUE.is("count(6)", x.count(6), 2048);
        DUE.is("neither room nor an ACT", x.undo(), -6);
        DUE.is("recover()", x.recover(), 214);
        DUE.is("count(7)", x.count(7), 0);
        DUE.is("count(9)", x.count(9), 0);
        DUE.is("the last byte", x.octet(0, 2047), 165);
    }
}
