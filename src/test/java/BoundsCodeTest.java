/** Bounds of CODES: 'VI' and promises 30 to 32. */
public final class BoundsCodeTest {
    private static final Check CHECK = new Check("bounds of codes");

    public static void main(String[] args) {
        oneToEightLetters();
        atMostAsManyRows();
        allAsLong();
        otherCharacters();
        endsTooEarly();
        blanks();
        leastRowFirst();
        placesOfRows();
        theOldOneStays();
        theTapeIsEmpty();
        whatsOfCodes();
        weightsAboveN();
        syndromes();
        distances();
        corrections();
        paulis();
        withoutACode();
        CHECK.end();
    }

    /** The answer, or the FAULT. */
    private static String read(RootHouse h, String text) {
        Check.type(h, text);
        return Check.said(h::code) + " " + h.fault(0) + " " + h.fault(1);
    }

    private static void due(String text, int left) {
        CHECK.same(text, read(new RootHouse(), text), left + " 0 0");
    }

    private static void wrong(String text, int kind, int place) {
        CHECK.same(text, read(new RootHouse(), text), "IllegalArgumentException " + kind + " " + place);
    }

    private static RootHouse coded(String text) {
        RootHouse h = new RootHouse();
        Check.type(h, text);
        h.code();
        return h;
    }

    /** z of each WIRE alone. */
    private static String rows(int n, int count) {
        StringBuilder text = new StringBuilder();
        for (int i = 0; i < count; i++) {
            text.append(i == 0 ? "" : ",").append("I".repeat(i)).append("Z").append("I".repeat(n - 1 - i));
        }
        return text.toString();
    }

    /** "n (1 .. 8) letters" */
    private static void oneToEightLetters() {
        for (int n = 1; n <= 8; n++) {
            for (String letter : new String[] {"X", "Y", "Z"}) {
                due(letter.repeat(n), n - 1);
            }
            wrong("I".repeat(n), 3, 0);
        }
        for (int n = 9; n <= 20; n++) {
            wrong("X".repeat(n), 1, 8);
        }
        wrong("", 1, 0);
        wrong("XXXXXXXX,ZZZZZZZZZ", 1, 17);
    }

    /** "at most n rows", "behind the n-th row the , itself" */
    private static void atMostAsManyRows() {
        for (int n = 1; n <= 8; n++) {
            for (int count = 1; count <= n; count++) {
                due(rows(n, count), n - count);
            }
            String all = rows(n, n);
            wrong(all + ",", 1, all.length());
            wrong(all + "," + "Z".repeat(n), 1, all.length());
            if (n > 1) {
                wrong(all + "Z", 1, all.length());
            }
            wrong(all + " , ", 1, all.length() + 1);
        }
    }

    /** "all as long as the first one", "a letter or , too many" */
    private static void allAsLong() {
        wrong("XXX,ZZ,XXX", 1, 6);
        wrong("XXX,ZZZZ", 1, 7);
        wrong("XXX,ZZI,XXXX", 1, 11);
        wrong("XXX,,", 1, 4);
        wrong(",XXX", 1, 0);
        wrong("XXX,ZZI,,", 1, 8);
        wrong("X,X", 1, 1);
        wrong("X,", 1, 1);
    }

    /** "the first character that can't stand there" */
    private static void otherCharacters() {
        for (int c = 33; c < 127; c++) {
            boolean letter = "IXYZ".indexOf(c) >= 0;
            if (!letter) {
                wrong((char) c + "X", 1, 0);
                if (c != ',') {
                    wrong("XX" + (char) c + "ZZ", 1, 2);
                    wrong("XX,Z" + (char) c, 1, 4);
                }
            }
        }
        wrong("XX;ZI", 1, 2);
        wrong("II,XZ,Q", 1, 5);
        wrong("IIX,XZI,Q", 1, 8);
    }

    /** "its length, if it ends too early" */
    private static void endsTooEarly() {
        String text = "ZIII,IZII,IIZI,IIIZ";
        for (int i = 0; i < text.length(); i++) {
            String part = text.substring(0, i);
            int rows = (i + 1) / 5;
            if (i > 0 && i < 5) {
                CHECK.same(part, read(new RootHouse(), part), i - 1 + " 0 0");
            } else if (i > 0 && i % 5 == 4) {
                due(part, 4 - rows);
            } else {
                wrong(part, 1, i);
                wrong(part + "  ", 1, i + 2);
            }
        }
    }

    /** "Blanks in it count for nothing", but for places */
    private static void blanks() {
        due("  X X , Z Z  ", 0);
        wrong("   ", 1, 3);
        wrong("  X X ,  Z I ", 2, 9);
        wrong("  X X ,  X X ", 3, 9);
        wrong("  X X ,  Q", 1, 9);
        wrong(" X X X X X X X X X", 1, 17);
    }

    /** "then of the least row: 2 one that does not commute with one ahead, 3 one that is a product of ones ahead (also of none)" */
    private static void leastRowFirst() {
        wrong("II,II", 3, 0);
        wrong("II,XX", 3, 0);
        wrong("XX,II", 3, 3);
        wrong("XX,ZI", 2, 3);
        wrong("XXX,ZII,III", 2, 4);
        wrong("XXX,III,ZII", 3, 4);
        wrong("XXI,ZZI,ZII", 2, 8);
        wrong("XXI,ZZI,YYI", 3, 8);
        wrong("ZIII,IZII,IIZI,ZZZI", 3, 15);
        wrong("ZIII,IZII,ZZII,XIII", 3, 10);
        wrong("ZIII,IZII,XZII,ZZII", 2, 10);
        wrong("XX,ZI,", 1, 5);
        wrong("II,ZX,", 1, 5);
        wrong("ZIIIIIII,IZIIIIII,IIZIIIII,IIIZIIII,IIIIZIII,IIIIIZII,IIIIIIZI,ZZZZZZZI", 3, 63);
        wrong("ZIIIIIII,IZIIIIII,IIZIIIII,IIIZIIII,IIIIZIII,IIIIIZII,IIIIIIZI,IIIIIIXI", 2, 63);
        due("ZIIIIIII,IZIIIIII,IIZIIIII,IIIZIIII,IIIIZIII,IIIIIZII,IIIIIIZI,ZZZZZZZY", 0);
    }

    /** "place: its first letter" */
    private static void placesOfRows() {
        wrong("XX,  ZI", 2, 5);
        wrong("XX ,XX", 3, 4);
        wrong("  I I", 3, 2);
    }

    /** "IllegalArgumentException: it has a FAULT (the old one stays)" */
    private static void theOldOneStays() {
        RootHouse h = coded("XZZXI,IXZZX,XIXZZ,ZXIXZ");
        for (String text : new String[] {"", "Q", "XX,", "XX,ZI", "XX,XX", "II", "XXXXXXXXX", "Z,Z", "ZZ,ZZ,ZZ", "ZIIIII,XIIIII"}) {
            Check.type(h, text);
            CHECK.same(text, Check.said(h::code), "IllegalArgumentException");
            CHECK.row("as it was", h::codes, 0, 5, 4, 3);
            CHECK.row("as it was", what -> h.pauli(1023, what), 0, 0, 1, 5);
            CHECK.same("as it was", h.codes(104), 15);
            CHECK.same("as it was", h.codes(415) >= 0 ? 1 : 0, 1);
            CHECK.same("as it was", h.codes(416), -1);
        }
        Check.type(h, "Z");
        CHECK.same("a new one", h.code(), 0);
        CHECK.row("in its place", h::codes, 0, 1, 1, 1);
        CHECK.same("THE GROUP", h.codes(104), 0);
        CHECK.same("SYNDROMES", h.codes(402), -1);
    }

    /** "The TAPE (it is empty then in any case)" */
    private static void theTapeIsEmpty() {
        RootHouse h = new RootHouse();
        read(h, "XX,ZZ");
        CHECK.same("behind a CODE", h.total(1), 0);
        read(h, "XX,ZZ,Q");
        CHECK.same("behind a FAULT", h.total(1), 0);
        read(h, "XX,XX");
        CHECK.same("behind a FAULT", h.total(1), 0);
    }

    /** codes: "NONE ... for another what or s" */
    private static void whatsOfCodes() {
        for (String text : new String[] {"X", "XX,ZZ", "XXXXXXXX"}) {
            RootHouse h = coded(text);
            CHECK.only("what", h::codes, 0, 2);
            int rows = h.codes(1);
            for (int kind = 1; kind <= 3; kind++) {
                CHECK.only("100 * " + kind + " + j", h::codes, 100 * kind, 100 * kind + 8);
                CHECK.same("between", h.codes(100 * kind + 50), -1);
            }
            CHECK.only("400 + s", h::codes, 400, 399 + (1 << rows));
        }
        RootHouse h = coded(rows(8, 8));
        CHECK.only("256 SYNDROMES", h::codes, 400, 655);
    }

    /** "(j 0 .. 8; 0 for those above n)" */
    private static void weightsAboveN() {
        for (int n = 1; n <= 8; n++) {
            RootHouse h = coded(rows(n, n));
            int group = 0;
            int centre = 0;
            int missed = 0;
            for (int j = 0; j <= 8; j++) {
                group += h.codes(100 + j);
                centre += h.codes(200 + j);
                missed += h.codes(300 + j);
                if (j > n) {
                    CHECK.same("above n", h.codes(100 + j), 0);
                    CHECK.same("above n", h.codes(200 + j), 0);
                    CHECK.same("above n", h.codes(300 + j), 0);
                }
            }
            CHECK.same("THE GROUP", group, 1 << n);
            CHECK.same("THE CENTRE", centre, 1 << n);
            CHECK.same("none is missed", missed, 0);
            CHECK.same("of weight 0", h.codes(100), 1);
            CHECK.same("of weight n", h.codes(100 + n), 1);
        }
        RootHouse h = coded("XXXXXXXX");
        CHECK.row("THE GROUP", h::codes, 100, 1, 0, 0, 0, 0, 0, 0, 0, 1, -1);
        int centre = 0;
        int missed = 0;
        for (int j = 0; j <= 8; j++) {
            centre += h.codes(200 + j);
            missed += h.codes(300 + j);
        }
        CHECK.same("half of all commute", centre, 32768);
        CHECK.same("all but those that are right", missed, 65536 - 4);
        CHECK.row("not missed", h::codes, 300, 0, 23, 252);
    }

    /** "A SYNDROME: row i is 2^i, if the PAULI does not commute with it" */
    private static void syndromes() {
        for (int n = 1; n <= 8; n++) {
            RootHouse h = coded(rows(n, n));
            for (int wire = 0; wire < n; wire++) {
                int place = 2 * (n - 1 - wire);
                CHECK.same("x", h.pauli(1 << place, 0), 1 << wire);
                CHECK.same("y", h.pauli(2 << place, 0), 1 << wire);
                CHECK.same("z", h.pauli(3 << place, 0), 0);
                CHECK.same("its CORRECTION", h.codes(400 + (1 << wire)), 1 << place);
            }
            CHECK.same("all x", h.pauli(((1 << 2 * n) - 1) / 3, 0), (1 << n) - 1);
            CHECK.same("the last SYNDROME", h.codes(399 + (1 << n)), ((1 << 2 * n) - 1) / 3);
        }
    }

    /** "or, with n rows, of one of THE GROUP but that of weight 0" */
    private static void distances() {
        CHECK.same("n rows", coded("XX,ZZ").codes(2), 2);
        CHECK.same("n rows", coded("X").codes(2), 1);
        CHECK.same("n rows", coded("XXX,ZZI,IZZ").codes(2), 2);
        CHECK.same("n - 1 rows", coded("ZZI,IZZ").codes(2), 1);
        CHECK.same("one row", coded("XX").codes(2), 1);
        CHECK.same("two rows of four", coded("XXXX,ZZZZ").codes(2), 2);
        CHECK.same("four rows of five", coded("XZZXI,IXZZX,XIXZZ,ZXIXZ").codes(2), 3);
        CHECK.same("five rows of five", coded("XZZXI,IXZZX,XIXZZ,ZXIXZ,XXXXX").codes(2), 3);
        CHECK.same("one that is great", coded("ZZIIIIII,IZZIIIII,IIZZIIII,IIIZZIII,IIIIZZII,IIIIIZZI,IIIIIIZZ,XXXXXXXX").codes(2), 2);
    }

    /** "one of the least weight, of these the least NUMBER" */
    private static void corrections() {
        RootHouse h = coded("XXX,ZZI");
        CHECK.same("nothing", h.codes(400), 0);
        CHECK.same("y of WIRE 2 is less than z of it", h.codes(401), 2);
        CHECK.same("x of WIRE 1", h.codes(402), 4);
        CHECK.same("y of WIRE 1", h.codes(403), 8);
        RootHouse g = coded("Y");
        CHECK.row("x is less than z", g::codes, 400, 0, 1, -1);
        RootHouse f = coded("YYYYYYYY");
        CHECK.row("x of the last", f::codes, 400, 0, 1, -1);
    }

    /** pauli: "NONE ... if there is no such PAULI or what" */
    private static void paulis() {
        for (int n = 1; n <= 8; n++) {
            RootHouse h = coded("Z".repeat(n));
            CHECK.only("NUMBER", number -> h.pauli(number, 0), 0, (1 << 2 * n) - 1);
            CHECK.only("NUMBER", number -> h.pauli(number, 2), 0, (1 << 2 * n) - 1);
            CHECK.only("what", what -> h.pauli(0, what), 0, 2);
            CHECK.same("nothing", h.pauli(0, 1), 2);
            CHECK.same("the row", h.pauli((1 << 2 * n) - 1, 1), 2);
            CHECK.same("its weight", h.pauli((1 << 2 * n) - 1, 2), n);
            CHECK.same("x", h.pauli(1, 1), 0);
            CHECK.same("z of one", h.pauli(3, 1), n == 1 ? 2 : 1);
            CHECK.same("its weight", h.pauli(3, 2), 1);
        }
    }

    /** "NONE without a CODE" */
    private static void withoutACode() {
        RootHouse h = new RootHouse();
        Check.type(h, "XX,ZI");
        CHECK.same("a FAULT", Check.said(h::code), "IllegalArgumentException");
        for (int what : new int[] {-1, 0, 1, 2, 3, 100, 108, 200, 208, 300, 308, 400, 401}) {
            CHECK.same("no CODE", h.codes(what), -1);
        }
        for (int what = -1; what <= 3; what++) {
            CHECK.same("no CODE", h.pauli(0, what), -1);
        }
    }
}
