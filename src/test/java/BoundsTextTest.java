/** Bounds of the TAPE, of TEXTS and of circuits: 'THE TAPE', 'I. CIRCUITS' and promises 1 to 8. */
public final class BoundsTextTest {
    private static final Check CHECK = new Check("bounds of texts");
    private static final String BROKEN = "IllegalArgumentException 1 ";

    public static void main(String[] args) {
        oneToEightBytes();
        characters32To126();
        oneWrongByteOfMany();
        atMost400Characters();
        refusedWordsLeaveTheTape();
        blanksCountForNothing();
        wiresOfN();
        wiresOfGates();
        bits();
        turns();
        routines();
        wiresOfRoutines();
        controls();
        inverses();
        deepest();
        wiresOfUses();
        usesOfUntold();
        routinesStandFirst();
        noRoutineInside();
        whatARoutineMayHave();
        noStatements();
        endsTooEarly();
        brokenIsToldFirst();
        leastPlaceIsToldFirst();
        toldTwice();
        notToldAhead();
        at300Ops();
        at60Hs();
        tooLongIsToldLast();
        all512Calls();
        CHECK.end();
    }

    private static void due(String text, String due) {
        CHECK.same(text, Check.read(text), due);
    }

    private static void fine(String text) {
        due(text, "0 0 0");
    }

    private static void broken(String text, int place) {
        due(text, BROKEN + place);
    }

    private static void layout(String text, String due) {
        RootHouse h = new RootHouse();
        CHECK.same(text, Check.read(h, text), "0 0 0");
        CHECK.same(text, Check.written(h, 0), due);
    }

    private static void wrong(String text, int kind, int place) {
        due(text, "IllegalArgumentException " + kind + " " + place);
    }

    /** "The n (1 .. 8) lowest bytes of word ...: true; false, changing nothing, for another n" */
    private static void oneToEightBytes() {
        for (int n : new int[] {Integer.MIN_VALUE, -8, -1, 0, 1, 2, 7, 8, 9, 10, 16, Integer.MAX_VALUE}) {
            RootHouse h = new RootHouse();
            boolean fits = n >= 1 && n <= 8;
            CHECK.same("type of " + n, h.type(0x3131313131313131L, n) ? 1 : 0, fits ? 1 : 0);
            CHECK.same("characters", h.total(1), fits ? n : 0);
        }
        RootHouse h = new RootHouse();
        h.type(0xFF00FF313A78303BL, 5);
        CHECK.same("the highest of five first", h.circuit(), 0);
        CHECK.same("x", h.op(0, 0, 0), 0);
        RootHouse g = new RootHouse();
        g.type(0x323A78303B7731L, 7);
        g.type(0xABCDEF313BL, 2);
        CHECK.same("one word behind another: 2:x0;w11;", Check.read(g, ""), "IllegalArgumentException 3 7");
    }

    /** "at most 400 characters, 32 .. 126" and "a byte that is none of its characters" */
    private static void characters32To126() {
        for (int c = 0; c < 256; c++) {
            RootHouse h = new RootHouse();
            boolean fits = c >= 32 && c <= 126;
            CHECK.same("character " + c, h.type(c, 1) ? 1 : 0, fits ? 1 : 0);
            CHECK.same("characters", h.total(1), fits ? 1 : 0);
        }
    }

    /** "false, changing nothing, for ... a byte that is none of its characters" */
    private static void oneWrongByteOfMany() {
        for (int at = 0; at < 8; at++) {
            for (int n = 1; n <= 8; n++) {
                for (long c : new long[] {0, 31, 127, 128, 255}) {
                    RootHouse h = new RootHouse();
                    long word = 0x3131313131313131L & ~(255L << 8 * at) | c << 8 * at;
                    CHECK.same("byte " + at + " of " + n + " is " + c, h.type(word, n) ? 1 : 0, at < n ? 0 : 1);
                    CHECK.same("characters", h.total(1), at < n ? 0 : n);
                }
            }
        }
    }

    /** "or if it would have more than 400" */
    private static void atMost400Characters() {
        for (int n = 1; n <= 8; n++) {
            RootHouse h = new RootHouse();
            Check.type(h, " ".repeat(400 - n));
            CHECK.yes("400 with " + n, h.type(0x2020202020202020L, n));
            CHECK.same("400", h.total(1), 400);
            CHECK.no("401", h.type(32, 1));
            RootHouse g = new RootHouse();
            Check.type(g, " ".repeat(401 - n));
            CHECK.no("401 with " + n, g.type(0x2020202020202020L, n));
            CHECK.same("as many as before", g.total(1), 401 - n);
        }
        String text = "1:" + " ".repeat(395) + "x0;";
        fine(text);
        String longest = "8:" + "x0;".repeat(132) + "  ";
        RootHouse h = new RootHouse();
        Check.type(h, longest);
        CHECK.no("no 401st", h.type(';', 1));
        CHECK.same("all of it is read", h.circuit(), 0);
        CHECK.same("its OPS", h.look(0, 1), 132);
        CHECK.same("the TAPE is empty", h.total(1), 0);
        CHECK.yes("so there is room", h.type(0x2020202020202020L, 8));
        broken("1:" + " ".repeat(397) + "x", 400);
        broken("1:" + " ".repeat(397) + ";", 399);
    }

    /** "false, changing nothing" */
    private static void refusedWordsLeaveTheTape() {
        RootHouse h = new RootHouse();
        Check.type(h, "1:x");
        h.type(0x3131313131313131L, 0);
        h.type(0x3131313131313131L, 9);
        h.type(0x3000, 2);
        h.type(0x0030, 2);
        Check.type(h, "0;");
        CHECK.same("what was there", h.circuit(), 0);
        CHECK.same("what was there", Check.written(h, 0), "1:x0;");
    }

    /** "Blanks in it count for nothing", but a FAULT's place counts them. */
    private static void blanksCountForNothing() {
        String text = "3:@a2[0>-t1;w01;]?1[m02;]!3[r1;]*2[1>-@a02;]y2;";
        RootHouse h = new RootHouse();
        RootHouse g = new RootHouse();
        String blanks = text.replaceAll("", " ").replaceAll("", " ");
        CHECK.same("without", Check.read(h, text), "0 0 0");
        CHECK.same("with", Check.read(g, blanks), "0 0 0");
        CHECK.same("the same", Check.written(g, 0), Check.written(h, 0));
        wrong(" 2 : x  2 ;", 2, 8);
        wrong("  3 : w 1  1 ; ", 3, 11);
        wrong("   1 :  @ a 0 ; ", 4, 8);
        broken("   ", 3);
        broken("  9 :", 2);
        broken(" 1  ;", 4);
        broken(" 1 : x 0  ", 10);
        broken(" 1 : x 0 ; ] ", 11);
    }

    /** "N (1 .. 8) tells the WIRES 0 .. N - 1" */
    private static void wiresOfN() {
        for (int c = 32; c < 127; c++) {
            if (c >= '1' && c <= '8') {
                RootHouse h = new RootHouse();
                CHECK.same("N", Check.read(h, (char) c + ":"), "0 0 0");
                CHECK.same("WIRES", h.look(0, 0), c - '0');
            } else if (c != ' ') {
                broken((char) c + ":", 0);
            }
        }
        broken("10:", 1);
    }

    /** "2: a WIRE (any digit) that there is not" and "A WIRE is any digit 0 .. 9." */
    private static void wiresOfGates() {
        for (int n = 1; n <= 8; n++) {
            for (int wire = 0; wire <= 9; wire++) {
                int kind = wire < n ? 0 : 2;
                for (String gate : new String[] {"x", "y", "z", "h", "s", "t", "-s", "r"}) {
                    String text = n + ":" + gate + wire + ";";
                    due(text, kind == 0 ? "0 0 0" : "IllegalArgumentException 2 " + (text.length() - 2));
                }
                due(n + ":m" + wire + "0;", kind == 0 ? "0 0 0" : "IllegalArgumentException 2 3");
                if (n > 1 && wire > 0) {
                    due(n + ":w0" + wire + ";", kind == 0 ? "0 0 0" : "IllegalArgumentException 2 4");
                    due(n + ":w" + wire + "0;", kind == 0 ? "0 0 0" : "IllegalArgumentException 2 3");
                    due(n + ":" + wire + ">x0;", kind == 0 ? "0 0 0" : "IllegalArgumentException 2 2");
                }
            }
        }
        for (String gate : new String[] {"x", "w0", "r", "m", "1>y", "-t", "@a", "@a0", "w"}) {
            for (char c : ";:>[]-*x@a,A/".toCharArray()) {
                if (!gate.equals("@a0") || c != ';' && c != '[') {
                    broken("3:" + gate + c, 2 + gate.length());
                }
            }
        }
    }

    /** "there are BITS 0 .. 3" */
    private static void bits() {
        for (int bit = 0; bit <= 9; bit++) {
            boolean is = bit <= 3;
            due("1:m0" + bit + ";", is ? "0 0 0" : BROKEN + 4);
            due("1:?" + bit + "[x0;]", is ? "0 0 0" : BROKEN + 3);
            due("1:!" + bit + "[x0;]", is ? "0 0 0" : BROKEN + 3);
        }
        broken("1:m0/;", 4);
        broken("1:?/[]", 3);
        broken("1:?[]", 3);
        broken("1:?0;", 4);
        broken("1:m00]", 5);
        RootHouse h = new RootHouse();
        Check.circuit(h, "1:m00;m03;?0[x0;]?3[x0;]!0[x0;]!3[x0;]");
        CHECK.row("the BITS of m", i -> h.op(0, i, 2), 0, 0, 3);
        CHECK.row("BITS that must be 1", i -> h.op(0, i, 4), 0, 0, 0, 1, 8, 0, 0);
        CHECK.row("BITS that must be 0", i -> h.op(0, i, 5), 0, 0, 0, 0, 0, 1, 8);
    }

    /** "D (1 .. 9) times" */
    private static void turns() {
        broken("1:*0[x0;]", 3);
        broken("1:*[x0;]", 3);
        broken("1:*:[x0;]", 3);
        broken("1:*10[x0;]", 4);
        for (int d = 1; d <= 9; d++) {
            RootHouse h = new RootHouse();
            CHECK.same("D", Check.read(h, "1:*" + d + "[x0;y0;]"), "0 0 0");
            CHECK.same("OPS", h.look(0, 1), 2 * d);
            CHECK.same("the last one", h.op(0, 2 * d - 1, 0), 1);
        }
    }

    /** "L one of a b c d, K (1 .. 4)" and "a [ behind @ L and a digit that is not 1 .. 4" */
    private static void routines() {
        for (int c = 32; c < 127; c++) {
            if (c != ' ') {
                due("1:@" + (char) c + "1[]", c >= 'a' && c <= 'd' ? "0 0 0" : BROKEN + 3);
            }
        }
        for (int k = 0; k <= 9; k++) {
            due("1:@d" + k + "[]", k >= 1 && k <= 4 ? "0 0 0" : BROKEN + 5);
        }
        fine("1:@a1[]@b2[]@c3[]@d4[]");
        broken("4:@a12[]", 6);
        broken("4:@a1 2 [", 8);
        broken("4:@a[]", 4);
        wrong("4:@b12;", 4, 2);
    }

    /** "in it these are 0 .. K - 1", whatever N is */
    private static void wiresOfRoutines() {
        for (int k = 1; k <= 4; k++) {
            for (int wire = 0; wire <= 9; wire++) {
                for (int n : new int[] {1, 4, 8}) {
                    due(n + ":@a" + k + "[t" + wire + ";]", wire < k ? "0 0 0" : "IllegalArgumentException 2 7");
                }
            }
        }
        layout("8:@a4[3>x0;2>y1;w23;0>1>2>t3;]@a7654;", "8:4>x7;5>y6;w54;5>6>7>t4;");
        layout("8:@a4[3>x0;2>y1;w23;]1>-@a0736;", "8:1>w36;1>3>y7;1>6>x0;");
        layout("8:@a1[t0;]@b2[-@a1;0>@a1;]@c4[@b30;]@c0174;", "8:-t0;4>t0;");
        wrong("8:@a2[]@b1[@a01;]", 2, 14);
        wrong("1:@a2[]@b4[@a23;]@b0123;", 2, 20);
    }

    /** "any number of W >" and "3: a WIRE that was told in the same GATE or USE before" */
    private static void controls() {
        for (int count = 0; count <= 7; count++) {
            StringBuilder text = new StringBuilder("8:");
            for (int i = 0; i < count; i++) {
                text.append(7 - i).append(">");
            }
            RootHouse h = new RootHouse();
            CHECK.same("CONTROLS", Check.read(h, text + "x0;"), "0 0 0");
            CHECK.same("CONTROLS", h.op(0, 0, 3), 256 - (256 >> count));
        }
        wrong("8:1>2>1>x0;", 3, 6);
        wrong("8:1>2>x1;", 3, 7);
        wrong("8:1>w21;", 3, 6);
        wrong("8:1>w12;", 3, 5);
        wrong("8:w77;", 3, 4);
        wrong("8:@a2[]1>@a01;", 3, 12);
        wrong("8:@a2[]@a00;", 3, 10);
        wrong("8:@a4[]@a0120;", 3, 12);
        fine("8:0>x1;0>x1;w01;");
        broken("2:0>;", 4);
        broken("2:0x1;", 3);
        broken("2:0>1x;", 5);
        broken("2:>x1;", 2);
    }

    /** "perhaps - (the inverse), then x, y, z, h, s or t ..., or w ..., or @ L" */
    private static void inverses() {
        for (String gate : new String[] {"x0", "y0", "z0", "h0", "s0", "t0", "w01"}) {
            fine("3:-" + gate + ";");
            fine("3:2>-" + gate + ";");
            broken("3:--" + gate + ";", 3);
            broken("3:-2>" + gate + ";", 3);
        }
        fine("3:@a1[]-@a0;");
        for (String other : new String[] {"m00;", "r0;", "?0[]", "!0[]", "*1[]", "]", ";", "[]", "0;"}) {
            broken("3:-" + other, 3);
            if (!other.equals("0;")) {
                broken("3:1>" + other, 4);
            }
        }
        broken("3:-@a1[]", 6);
        broken("3:1>@a1[]", 7);
    }

    /** "[ ] at most 8 deep", "a [ that would be the ninth deep (a ROUTINE's own is the first one)" */
    private static void deepest() {
        for (String open : new String[] {"*1[", "?3[", "!0["}) {
            fine("1:" + open.repeat(8) + "x0;" + "]".repeat(8));
            broken("1:" + open.repeat(9) + "x0;" + "]".repeat(9), 28);
        }
        fine("1:@a1[" + "*1[".repeat(7) + "x0;" + "]".repeat(8));
        broken("1:@a1[" + "*1[".repeat(8), 29);
        fine("1:@a1[" + "*1[".repeat(7) + "]".repeat(8) + "?0[".repeat(8) + "]".repeat(8));
        fine("1:" + "*1[]".repeat(20) + "*1[".repeat(7) + "*1[]".repeat(20) + "]".repeat(7));
        broken("1:" + "*1[".repeat(7) + "]*1[".repeat(3) + "*1[*1[", 40);
        broken("1:" + "*1[".repeat(8) + "]".repeat(9), 34);
        broken("1:]", 2);
        broken("1:@a1[]]", 7);
        broken("1:[]", 2);
    }

    /** "Of a USE as many WIRES must follow as the ROUTINE told ahead has" */
    private static void wiresOfUses() {
        for (int k = 1; k <= 4; k++) {
            String text = "8:@c" + k + "[]@c";
            for (int count = 0; count <= 6; count++) {
                String use = text + "01234567".substring(0, count) + ";";
                int place = 9 + Math.min(k, count);
                due(use, count == k ? "0 0 0" : BROKEN + place);
            }
        }
    }

    /** "of one that was not told: any number, 1 .. 4" */
    private static void usesOfUntold() {
        for (int count = 0; count <= 9; count++) {
            String use = "8:@c" + "012345678".substring(0, count) + ";";
            boolean can = count >= 1 && count <= 4;
            due(use, can ? "IllegalArgumentException 4 2" : BROKEN + (4 + Math.min(count, 4)));
        }
    }

    /** "or where a STATEMENT (that is not in a ROUTINE) stands ahead" */
    private static void routinesStandFirst() {
        for (String ahead : new String[] {"x0;", "-t0;", "w01;", "0>x1;", "m00;", "r0;", "?0[]", "!1[]", "*2[]"}) {
            broken("2:" + ahead + "@a1[]", 2 + ahead.length() + 3);
        }
        broken("2:@a1[]@a0;@b1[]", 14);
        fine("2:@a1[x0;*2[t0;]]@b1[@a0;]@c2[]@d4[]x0;");
    }

    /** "or in a ROUTINE" and in what a STATEMENT holds */
    private static void noRoutineInside() {
        broken("2:@a1[@b1[]]", 9);
        broken("2:@a1[*2[@b1[]]]", 12);
        broken("2:*1[@b1[]]", 8);
        broken("2:?0[@b1[]]", 8);
        broken("2:!0[@b1[]]", 8);
    }

    /** "m, r, ?, ! in a ROUTINE" */
    private static void whatARoutineMayHave() {
        broken("2:@a1[m00;]", 6);
        broken("2:@a1[r0;]", 6);
        broken("2:@a1[?0[]]", 6);
        broken("2:@a1[!0[]]", 6);
        broken("2:@a1[*2[m00;]]", 9);
        broken("2:@a1[x0;*2[x0;]r0;]", 16);
        fine("2:@a1[]m00;r0;?0[]!0[]");
        fine("2:@a1[*2[x0;]]*2[m00;]r1;");
    }

    /** "STATEMENTS: any number, none too." */
    private static void noStatements() {
        for (String text : new String[] {"1:", "8:", "1:*9[]", "1:?0[]", "1:!3[]", "1:@a1[]", "1:@a1[]@a0;",
            "1:@a4[*9[*9[]]]*2[*2[]?0[]]"}) {
            RootHouse h = new RootHouse();
            CHECK.same(text, Check.read(h, text), "0 0 0");
            CHECK.same(text + " OPS", h.look(0, 1), 0);
            CHECK.same(text + " WRITTEN", h.look(0, 3), 2);
        }
    }

    /** "its length, if it ends too early" */
    private static void endsTooEarly() {
        String text = "3:@a2[0>x1;-s0;]@b1[]?0[m01;]!1[r2;]*2[w01;?3[]]1>-@a02;h2;@c01;";
        int depth = 0;
        for (int i = 0; i < text.length(); i++) {
            char last = i == 0 ? ' ' : text.charAt(i - 1);
            depth += last == '[' ? 1 : last == ']' ? -1 : 0;
            boolean whole = depth == 0 && (last == ':' || last == ';' || last == ']');
            due(text.substring(0, i), whole ? "0 0 0" : BROKEN + i);
            due(text.substring(0, i) + "   ", whole ? "0 0 0" : BROKEN + (i + 3));
        }
        wrong(text, 4, 59);
    }

    /** "kind 1 ... looked at first" */
    private static void brokenIsToldFirst() {
        broken("2:x5;w00;@a0;q", 13);
        broken("2:x5;w00;@a0;x", 14);
        broken("2:x5;m04;", 7);
        broken("2:@a1[x3;]@a1[]@b0;*0[", 20);
        broken("1:*9[*9[*9[h0;]]]h", 18);
        broken("1:*9[*9[*9[h0;]]]]", 17);
    }

    /** "then of the others the least place" */
    private static void leastPlaceIsToldFirst() {
        wrong("2:x2;w00;@a0;", 2, 3);
        wrong("2:w00;x2;@a0;", 3, 4);
        wrong("2:@a0;x2;w00;", 4, 2);
        wrong("2:@a2;w00;", 4, 2);
        wrong("2:0>@a0;", 4, 4);
        wrong("2:3>@a0;", 2, 2);
        wrong("2:0>0>@a1;", 3, 4);
        wrong("3:0>0>x3;", 3, 4);
        wrong("3:3>3>x0;", 2, 2);
        wrong("3:@a1[x1;]x3;", 2, 7);
        wrong("2:@a1[]@a1[x1;]", 4, 7);
    }

    /** "4: an @ ... of a ROUTINE that was (told)"; "one that is told twice is read by its own K" */
    private static void toldTwice() {
        for (char name = 'a'; name <= 'd'; name++) {
            wrong("2:@" + name + "1[]@" + name + "1[]", 4, 7);
        }
        wrong("4:@a1[]@a4[x3;]", 4, 7);
        wrong("4:@a4[]@a1[x3;]@a0123;", 4, 7);
        broken("4:@a4[]@a1[x3;]@a0;", 18);
        broken("4:@a1[]@a4[x3;]@a0123;", 18);
        broken("4:@a1[]@a5[]", 10);
    }

    /** "4: an @ of a USE whose ROUTINE was not told ahead (all of it)" */
    private static void notToldAhead() {
        wrong("2:@a1[@a0;]", 4, 6);
        wrong("2:@a1[@b0;]@b1[]", 4, 6);
        wrong("2:@a1[]@b1[@a0;@b0;]", 4, 15);
        wrong("2:@b1[]*2[0>-@a1;]", 4, 13);
        fine("2:@a1[]@b1[@a0;]@c1[@b0;@a0;]@d1[@c0;@b0;@a0;]@d1;");
    }

    private static String many(int count, String op) {
        return ("*9[" + op + "]").repeat(count / 9) + op.repeat(count % 9);
    }

    /** "5 at place 0: more than 300 OPS" */
    private static void at300Ops() {
        for (int count : new int[] {299, 300, 301, 302}) {
            String due = count <= 300 ? "0 0 0" : "IllegalArgumentException 5 0";
            due("1:" + many(count, "x0;"), due);
            due("1:@a1[" + many(count, "x0;") + "]@a0;", due);
            due("1:@a1[" + many(count, "x0;") + "]-@a0;", due);
            due("1:@a1[x0;]" + many(count, "@a0;"), due);
            due("1:?0[" + many(count, "r0;") + "]", due);
            due("1:*1[*1[" + many(count, "m00;") + "]]", due);
        }
        due("1:*5[*6[*9[x0;]x0;]]", "0 0 0");
        due("1:*5[*6[*9[x0;]x0;]]x0;", "IllegalArgumentException 5 0");
        due("1:x0;*5[*6[*9[x0;]x0;]]", "IllegalArgumentException 5 0");
        due("1:*9[*9[*9[*9[*9[*9[*9[*9[x0;]]]]]]]]", "IllegalArgumentException 5 0");
        due("1:@a1[*9[*9[*9[*9[*9[*9[*9[x0;]]]]]]]]@a0;", "IllegalArgumentException 5 0");
        due("1:@a1[*9[*9[*9[*9[*9[*9[*9[x0;]]]]]]]]", "0 0 0");
        due("1:*9[*9[*9[x0;]]]*9[]", "IllegalArgumentException 5 0");
        for (char name = 'a'; name <= 'd'; name++) {
            RootHouse g = new RootHouse();
            CHECK.same("a ROUTINE of 300", Check.read(g, "1:@" + name + "1[s0;" + many(298, "x0;") + "y0;]@" + name + "0;"), "0 0 0");
            CHECK.row("the first ones", i -> g.op(0, i, 0), -1, -1, 4, 0, 0);
            CHECK.row("the last ones", i -> g.op(0, i, 0), 298, 0, 1, -1);
            RootHouse f = new RootHouse();
            CHECK.same("its inverse", Check.read(f, "1:@" + name + "1[s0;" + many(298, "x0;") + "y0;]-@" + name + "0;"), "0 0 0");
            CHECK.row("the first ones", i -> f.op(0, i, 0), -1, -1, 1, 0, 0);
            CHECK.row("the last ones", i -> f.op(0, i, 0), 298, 0, 6, -1);
        }
        RootHouse h = new RootHouse();
        Check.circuit(h, "1:" + many(299, "x0;") + "y0;");
        CHECK.same("OPS", h.look(0, 1), 300);
        CHECK.row("the last ones", i -> h.op(0, i, 0), 298, 0, 1, -1, -1);
        CHECK.same("WRITTEN", h.look(0, 3), 902);
        CHECK.row("the last characters", k -> h.written(0, k), 899, 'y', '0', ';', -1);
    }

    /** "or more than 60 of kind 3" */
    private static void at60Hs() {
        for (int count : new int[] {59, 60, 61, 62}) {
            String due = count <= 60 ? "0 0 0" : "IllegalArgumentException 5 0";
            due("2:" + many(count, "h0;"), due);
            due("2:" + many(count, "0>h1;"), due);
            due("2:" + many(count, "-h0;x0;s0;t0;"), due);
            due("2:@a1[" + many(count, "h0;") + "]@a1;", due);
            due("2:?0[" + many(count, "h0;") + "]", due);
        }
        fine("2:@a1[" + many(60, "h0;") + "]" + many(60, "h0;"));
        wrong("2:@a1[" + many(60, "h0;") + "]h0;@a0;", 5, 0);
        RootHouse h = new RootHouse();
        Check.circuit(h, "2:" + many(60, "h0;x1;"));
        CHECK.same("of kind 3", h.look(0, 2), 60);
    }

    /** "An object is used for at most 512 calls after it has been made": all of these are answered. */
    private static void all512Calls() {
        RootHouse h = new RootHouse();
        int calls = 0;
        while (calls < 510) {
            CHECK.yes("a word", h.type(0x313A78303BL, 5));
            CHECK.same("a circuit", h.circuit(), calls / 3 % 17);
            calls += 2;
            if (calls % 51 == 50) {
                h.clear();
            } else {
                CHECK.same("circuits", h.total(0), calls / 3 % 17 + 1);
            }
            calls++;
        }
        CHECK.same("none is left of call 510", h.total(0), 0);
        CHECK.no("the last one, which is refused", h.type(31, 1));
    }

    /** "if there is none, 5" */
    private static void tooLongIsToldLast() {
        String tooLong = "1:" + many(301, "x0;");
        wrong(tooLong, 5, 0);
        wrong(tooLong + "x1;", 2, tooLong.length() + 1);
        wrong(tooLong + "0>x0;", 3, tooLong.length() + 3);
        wrong(tooLong + "@a0;", 4, tooLong.length());
        String tooLongUse = "1:@a1[" + many(301, "x0;") + "]@a0;";
        wrong(tooLongUse, 5, 0);
        broken(tooLongUse + "q", tooLongUse.length());
        wrong(tooLongUse + "x1;", 2, tooLongUse.length() + 1);
        wrong(tooLongUse + "@b0;", 4, tooLongUse.length());
        String tooLongTurn = "1:*9[*9[*9[x0;]]]";
        broken(tooLongTurn + "q", tooLongTurn.length());
        wrong(tooLongTurn + "@b0;", 4, tooLongTurn.length());
        String tooManyHs = "1:" + many(61, "h0;");
        wrong(tooManyHs + "x1;", 2, tooManyHs.length() + 1);
    }
}
