/** Promises 1 to 8: a new object, the TAPE, TEXTS and their FAULTS, circuits LAID OUT and WRITTEN. */
public final class TextTest {
    private static final Check CHECK = new Check("texts");

    public static void main(String[] args) {
        newObject();
        tape();
        brokenTexts();
        wrongTexts();
        tooLong();
        layouts();
        numbers();
        questions();
        CHECK.end();
    }

    private static void newObject() {
        RootHouse h = new RootHouse();
        CHECK.row("total", h::total, -1, -1, 0, 0, 1, 0, 0, 0, 0, 0, -1);
        CHECK.row("fault", h::fault, -1, -1, 0, 0, -1);
        CHECK.row("row 0", w -> h.row(0, w), -1, -1, 0, 1, 0, -1);
        CHECK.same("state", h.state(1), -1);
        CHECK.same("spider", h.spider(0, 0), -1);
        CHECK.same("reduce", h.reduce(), -1);
        CHECK.same("codes", h.codes(0), -1);
        CHECK.same("pauli", h.pauli(0, 0), -1);
        CHECK.same("same", h.same(), -100);
        CHECK.same("played", h.played(), -1);
        CHECK.same("letter", h.letter(-1), -1);
        CHECK.same("group", h.group(-1, 0), -1);
        CHECK.same("nodes", h.nodes(0), -1);
        CHECK.yes("commutes", h.commutes());
    }

    private static void tape() {
        RootHouse h = new RootHouse();
        CHECK.no("no byte", h.type('h', 0));
        CHECK.no("nine bytes", h.type('h', 9));
        CHECK.no("byte 31", h.type(31, 1));
        CHECK.no("byte 127", h.type(127, 1));
        CHECK.no("byte 128 and above", h.type(0x48FFL, 2));
        CHECK.no("a higher byte that is 0", h.type('h', 2));
        CHECK.same("nothing was typed", h.total(1), 0);
        CHECK.yes("bytes above the n-th count for nothing", h.type(0xFF48L, 1));
        CHECK.yes("the edges", h.type(' ' << 8 | '~', 2));
        CHECK.same("three were typed", h.total(1), 3);
        Check.type(h, " ".repeat(392));
        CHECK.no("it would have 401", h.type(0x20202020202020L, 6));
        CHECK.same("395 are there", h.total(1), 395);
        CHECK.yes("400", h.type(0x2020202020L, 5));
        CHECK.no("one more", h.type(' ', 1));
        CHECK.fails("it is no TEXT", IllegalArgumentException.class, h::circuit);
        CHECK.same("empty then", h.total(1), 0);
    }

    private static void fault(String text, int kind, int place) {
        RootHouse h = new RootHouse();
        Check.type(h, text);
        int number = -1;
        try {
            number = h.circuit();
        } catch (IllegalArgumentException e) {
            number = -2;
        }
        CHECK.same(text + " is a circuit", number, kind == 0 ? 0 : -2);
        CHECK.same(text + " kind", h.fault(0), kind);
        CHECK.same(text + " place", h.fault(1), place);
        CHECK.same(text + " circuits", h.total(0), kind == 0 ? 1 : 0);
        CHECK.same(text + " tape", h.total(1), 0);
    }

    private static void brokenTexts() {
        String[] texts = {"", "9:", "0:", "x:", "2", "2;", "2:h", "2:h0", "2:h0 ", "2:h0;]", "2:0x1;", "2:--s0;",
            "2:-0>x1;", "2:0>m10;", "2:-r0;", "2:m04;", "2:m0;", "2:?4[]", "2:!9[]", "2:*0[]", "2:*2;", "2:*2[h0;",
            "2:@e1[]", "2:@a;", "2:@a5[]", "2:@a0[]", "2:h0;@a1[]", "2:*2[@a1[]]", "2:@a1[@b1[]]", "2:@a1[m00;]",
            "2:@a1[r0;]", "2:@a1[?0[]]", "2:@a1[!0[]]", "2:0>@a1[]", "2:-@a1[]", "3:@a2[]@a0;", "3:@a2[]@a012;",
            "3:@a01234;", "2:@a1[]@b1[x0;", "2:h0;;", "2:q0;", "2:w0;", "2:1>", "  2 : h 0 0 ;", "2:h5;;"};
        int[] places = {0, 0, 0, 0, 1, 1, 3, 4, 5, 5, 3, 3,
            3, 4, 3, 4, 4, 3, 3, 3, 4, 8,
            3, 4, 5, 5, 8, 8, 9, 6,
            6, 6, 6, 7, 6, 10, 11,
            8, 14, 5, 2, 4, 4, 10, 5};
        for (int i = 0; i < texts.length; i++) {
            fault(texts[i], 1, places[i]);
        }
        fault("1:" + "*1[".repeat(8) + "]".repeat(8), 0, 0);
        fault("1:" + "*1[".repeat(9) + "]".repeat(9), 1, 28);
        fault("1:@a1[" + "*1[".repeat(7) + "]".repeat(8), 0, 0);
        fault("1:@a1[" + "*1[".repeat(8) + "]".repeat(9), 1, 29);
        fault("2:m00;@a1[]", 1, 9);
        fault("2:r0;@a1[]", 1, 8);
        fault("2:?0[]@a1[]", 1, 9);
        fault("2:@a1[]@a0;@b1[]", 1, 14);
        fault("1:?0[!0[" + "*1[".repeat(6) + "]".repeat(8), 0, 0);
    }

    private static void wrongTexts() {
        fault("2:h2;", 2, 3);
        fault("2:9>x0;", 2, 2);
        fault("1:m10;", 2, 3);
        fault("1:r1;", 2, 3);
        fault("4:@a2[x2;]", 2, 7);
        fault("1:@a2[x1;]", 0, 0);
        fault("2:0>x0;", 3, 5);
        fault("2:w11;", 3, 4);
        fault("3:0>0>x1;", 3, 4);
        fault("3:@a2[]@a11;", 3, 10);
        fault("3:@a1[]1>@a1;", 3, 11);
        fault("2:5>x5;", 2, 2);
        fault("2:@a0;", 4, 2);
        fault("2:0>-@a1;", 4, 5);
        fault("2:@a1[]@a1[]", 4, 7);
        fault("2:@a1[@a0;]", 4, 6);
        fault("2:@a1[@b0;]@b1[]", 4, 6);
        fault("2:@a1[]@a1[@a0;]", 4, 7);
        fault("3:@a1[]@a2[x1;]", 4, 7);
        fault("3:@a1[]@a2[]@a01;", 1, 15);
        fault("2:h5;@a0;", 2, 3);
        fault("2:@a5;", 4, 2);
        fault("2:  h 5 ;", 2, 6);
        fault("2:@a0;]", 1, 6);
        fault("2:@a1[x1;]@a2;h", 1, 15);
        fault("8:@a4[]@a0123;h7;", 0, 0);
    }

    private static void tooLong() {
        String three = "*5[*6[*9[x0;]]]*3[*9[x0;]]";
        fault("1:" + three + "x0;x0;x0;", 0, 0);
        fault("1:" + three + "x0;x0;x0;x0;", 5, 0);
        fault("1:*9[*6[h0;]]*6[h0;]", 0, 0);
        fault("1:*9[*6[h0;]]*7[h0;]", 5, 0);
        fault("1:@a1[*9[*9[*9[x0;]]]]", 0, 0);
        fault("1:@a1[*9[*9[*9[x0;]]]]@a0;", 5, 0);
        fault("1:@a1[*9[*9[*9[x0;]]]]@b1[@a0;]-@b0;", 5, 0);
        fault("1:@a1[*9[*9[*9[*9[*9[*9[*9[]]]]]]]]*9[*9[*9[@a0;]]]", 0, 0);
        fault("1:*9[*9[*9[x0;]]]h1;", 2, 18);
    }

    private static void layout(String text, String due) {
        RootHouse h = new RootHouse();
        int c = Check.circuit(h, text);
        CHECK.same(text, Check.written(h, c), due);
        CHECK.same(text + " length", h.look(c, 3), due.length());
        CHECK.same(text + " again", Check.written(h, Check.circuit(h, due)), due);
    }

    private static void layouts() {
        layout("2:", "2:");
        layout(" 1 : h 0 ; ", "1:h0;");
        layout("3:2>0>-s1;-x0;-t2;1>w20;", "3:0>2>-s1;x0;-t2;1>w20;");
        layout("3:@a2[0>x1;s0;t1;]2>-@a10;", "3:2>-t0;2>-s1;1>2>x0;");
        layout("4:@a2[w01;-t0;]@b3[@a20;-@a12;]@b312;", "4:w23;-t2;t1;w12;");
        layout("2:*2[x0;*3[y1;]]", "2:x0;y1;y1;y1;x0;y1;y1;y1;");
        layout("1:?0[!0[x0;]?2[m03;]]r0;", "1:?0[!0[x0;]]?0[?2[m03;]]r0;");
        layout("1:?3[?1[*2[z0;]]!0[z0;]]", "1:?1[?3[z0;]]?1[?3[z0;]]!0[?3[z0;]]");
        layout("2:@a1[t0;]?1[0>@a1;]", "2:?1[0>t1;]");
        layout("2:@b1[h0;s0;]@a1[*2[-@b0;]]-@a1;", "2:h1;s1;h1;s1;");
        layout("8:0>1>2>3>4>5>6>x7;m73;", "8:0>1>2>3>4>5>6>x7;m73;");
    }

    private static void numbers() {
        RootHouse h = new RootHouse();
        for (int i = 0; i < 20; i++) {
            CHECK.same("its number", Check.circuit(h, "1:h0;"), i);
        }
        Check.type(h, "1:q");
        CHECK.fails("the 21st", IllegalStateException.class, h::circuit);
        CHECK.same("the tape is empty", h.total(1), 0);
        CHECK.same("no FAULT of it is told", h.fault(0), 0);
        h.begin(0, 0, 0);
        h.diagram(0);
        h.clear();
        CHECK.same("no circuits", h.total(0), 0);
        CHECK.same("no RUN", h.state(0), -1);
        CHECK.same("no DIAGRAM", h.total(3), 0);
        CHECK.same("numbers begin again", Check.circuit(h, "1:"), 0);
    }

    private static void questions() {
        RootHouse h = new RootHouse();
        int c = Check.circuit(h, "3:h0;2>h1;?1[!2[m23;]]0>w12;r0;");
        CHECK.row("look", w -> h.look(c, w), -1, -1, 3, 5, 2, 31, -1);
        CHECK.row("op 0", w -> h.op(c, 0, w), -1, -1, 3, 0, 0, 0, 0, 0, -1);
        CHECK.row("op 1", w -> h.op(c, 1, w), 0, 3, 1, 0, 4, 0, 0);
        CHECK.row("op 2", w -> h.op(c, 2, w), 0, 9, 2, 3, 0, 2, 4);
        CHECK.row("op 3", w -> h.op(c, 3, w), 0, 8, 1, 2, 1, 0, 0);
        CHECK.row("op 4", w -> h.op(c, 4, w), 0, 10, 0, 0, 0, 0, 0);
        CHECK.row("no op", w -> h.op(c, 5, w), 0, -1, -1);
        CHECK.row("no op", w -> h.op(c, -1, w), 0, -1, -1);
        CHECK.row("no circuit", n -> h.look(n, 0), -1, -1, 3, -1);
        CHECK.row("no circuit", n -> h.op(n, 0, 0), -1, -1, 3, -1);
        CHECK.row("no circuit", n -> h.written(n, 0), -1, -1, '3', -1);
        CHECK.row("characters", k -> h.written(c, k), -1, -1, '3', ':', 'h', '0', ';', '2', '>');
        CHECK.row("the last ones", k -> h.written(c, k), 29, '0', ';', -1, -1);
    }
}
