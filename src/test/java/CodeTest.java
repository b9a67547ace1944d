/** Promises 30 to 32: CODES with their FAULTS, distances, corrections and PAULIS. */
public final class CodeTest {
    private static final Check CHECK = new Check("codes");

    public static void main(String[] args) {
        faults();
        smallest();
        repetition();
        seven();
        eight();
        CHECK.end();
    }

    private static void fault(String text, int kind, int place) {
        RootHouse h = new RootHouse();
        Check.type(h, "X");
        h.code();
        Check.type(h, text);
        boolean read = true;
        try {
            h.code();
        } catch (IllegalArgumentException e) {
            read = false;
        }
        CHECK.same(text + " is read", read ? 1 : 0, kind == 0 ? 1 : 0);
        CHECK.same(text + " kind", h.fault(0), kind);
        CHECK.same(text + " place", h.fault(1), place);
        CHECK.same(text + " tape", h.total(1), 0);
        if (kind != 0) {
            CHECK.same(text + ": the old one stays", h.codes(0), 1);
        }
    }

    private static void faults() {
        fault("", 1, 0);
        fault("  ", 1, 2);
        fault(",X", 1, 0);
        fault("XA", 1, 1);
        fault("x", 1, 0);
        fault("XX,", 1, 3);
        fault("XX,Z", 1, 4);
        fault("XX,Z,", 1, 4);
        fault("XX,ZZZ", 1, 5);
        fault("XX,,", 1, 3);
        fault("X,", 1, 1);
        fault("XX,ZZ,YY", 1, 5);
        fault("XXXXXXXXX", 1, 8);
        fault("XX,ZI", 2, 3);
        fault("XX, ZI", 2, 4);
        fault("XX,XX", 3, 3);
        fault("XXI,ZZI,YYI", 3, 8);
        fault("II", 3, 0);
        fault("XI,II", 3, 3);
        fault("ZII,IZI,ZZI", 3, 8);
        fault("XXX,III,ZII", 3, 4);
        fault("X Z Z X I ,IXZZX,XIXZZ,ZXIXZ", 0, 0);
        fault("XXXXXXXX", 0, 0);
    }

    private static RootHouse code(String text, int due) {
        RootHouse h = new RootHouse();
        Check.type(h, text);
        CHECK.same(text, h.code(), due);
        return h;
    }

    private static void smallest() {
        RootHouse h = code("Y", 0);
        CHECK.row("codes", h::codes, -1, -1, 1, 1, 1, -1);
        CHECK.row("THE GROUP", h::codes, 99, -1, 1, 1, 0, 0, 0, 0, 0, 0, 0, -1);
        CHECK.row("THE CENTRE", h::codes, 199, -1, 1, 1, 0, 0, 0, 0, 0, 0, 0, -1);
        CHECK.row("missed", h::codes, 299, -1, 0, 0, 0, 0, 0, 0, 0, 0, 0, -1);
        CHECK.row("corrections", h::codes, 399, -1, 0, 1, -1);
        CHECK.row("syndromes", i -> h.pauli(i, 0), -1, -1, 0, 1, 0, 1, -1);
        CHECK.row("groups", i -> h.pauli(i, 1), 0, 2, 0, 2, 0);
        CHECK.row("weights", i -> h.pauli(i, 2), 0, 0, 1, 1, 1);
        CHECK.row("no such what", w -> h.pauli(0, w), -1, -1, 0, 2, 0, -1);
    }

    private static void repetition() {
        RootHouse h = code("ZZI,IZZ", 1);
        CHECK.row("codes", h::codes, 0, 3, 2, 1);
        CHECK.row("corrections", h::codes, 400, 0, 16, 1, 4, -1);
        CHECK.same("x of WIRE 0", h.pauli(16, 0), 1);
        CHECK.same("x of WIRE 1", h.pauli(4, 0), 3);
        CHECK.same("x of WIRE 2", h.pauli(1, 0), 2);
        CHECK.same("z of WIRE 2 is of THE CENTRE", h.pauli(3, 1), 1);
        CHECK.same("zz", h.pauli(15, 1), 2);
        CHECK.row("THE GROUP", h::codes, 100, 1, 0, 3, 0, 0);
        CHECK.row("THE CENTRE", h::codes, 200, 1, 3, 3, 9, 0);
        CHECK.row("missed", h::codes, 300, 0, 6, 18, 24, 0);
    }

    private static void seven() {
        RootHouse h = code("IIIXXXX,IXXIIXX,XIXIXIX,IIIZZZZ,IZZIIZZ,ZIZIZIZ", 1);
        CHECK.row("codes", h::codes, 0, 7, 6, 3);
        CHECK.row("THE GROUP", h::codes, 100, 1, 0, 0, 0, 21, 0, 42, 0, 0);
        CHECK.same("of weight 1 none is missed", h.codes(301), 0);
        CHECK.same("no x, no z", h.codes(400), 0);
        CHECK.same("z of WIRE 6 is least", h.codes(400 + 7), 3);
    }

    private static void eight() {
        RootHouse h = code("XXXXXXXX,ZZZZZZZZ", 6);
        CHECK.row("codes", h::codes, 0, 8, 2, 2);
        CHECK.same("THE GROUP", h.codes(108), 3);
        CHECK.same("THE CENTRE", h.codes(202), 84);
        CHECK.row("corrections", h::codes, 400, 0, 3, 1, 2, -1);
        CHECK.same("the last PAULI", h.pauli(65535, 1), 2);
        CHECK.same("none behind it", h.pauli(65536, 1), -1);
        Check.type(h, "XX,ZZ");
        CHECK.same("another one", h.code(), 0);
        CHECK.row("codes", h::codes, 0, 2, 2, 2);
        CHECK.row("THE GROUP", h::codes, 100, 1, 0, 3, 0);
    }
}
