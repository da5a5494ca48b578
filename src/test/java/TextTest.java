/** Promises 6 to 8: feed, square, fault. */
public final class TextTest {
    public static void main(String[] args) {
        Check t = new Check("TextTest");
        feed(t);
        tapeOfAllBytes(t);
        goodTexts(t);
        cannotStand(t);
        notAsTold(t);
        noRoom(t);
        faultsLeaveAll(t);
        newSquare(t);
        t.end();
    }

    private static void feed(Check t) {
        HotPennies x = new HotPennies();
        t.due("feed(0, 0)", x.feed(0, 0), Check.BAD);
        t.due("feed(0, 9)", x.feed(0, 9), Check.BAD);
        t.due("feed(0, -1)", x.feed(0, -1), Check.BAD);
        t.due("feed(0, MIN)", x.feed(0, Integer.MIN_VALUE), Check.BAD);
        for (int k = 1; k <= 37; k++) {
            t.due("feed of blanks, call " + k, x.feed(0x2020202020202020L, 8), 8 * k);
        }
        t.due("feed(.., 5) above 300", x.feed(0x2020202020L, 5), Check.FULL);
        t.due("count(6)", x.count(6), 296);
        t.due("feed(.., 9): BAD ahead of FULL", x.feed(0, 9), Check.BAD);
        t.due("feed(.., 3)", x.feed(0x202020L, 3), 299);
        t.due("feed(.., 2) above 300", x.feed(0x2020L, 2), Check.FULL);
        t.due("feed(.., 1)", x.feed(0x20L, 1), 300);
        t.due("feed(.., 1) above 300", x.feed(0x20L, 1), Check.FULL);
        t.due("count(6)", x.count(6), 300);
        t.due("square() of blanks", x.square(), -1000400);
        t.due("count(6), empty then", x.count(6), 0);
        t.due("fault()", x.fault(), 1);
    }

    private static void tapeOfAllBytes(Check t) {
        HotPennies x = new HotPennies();
        t.due("feed: only the lowest bytes", x.feed(0x7878786C61773BL, 4), 4);
        t.due("feed: behind these", x.feed(0x20, 1), 5);
        t.due("square(): 'law; '", x.square(), -1000103);
        Check.feed(x, "law 7;");
        t.due("feed: the highest of them first", x.feed(0x0A200A, 3), 9);
        t.due("square()", x.square(), 0);
        t.due("count(3)", x.count(3), 7);
        t.due("feed(-1, 8)", x.feed(-1L, 8), 8);
        t.due("square() of bytes 255", x.square(), -1000100);
        StringBuilder text = new StringBuilder("law 5;");
        while (text.length() < 300) {
            text.append(text.length() % 2 == 0 ? ' ' : '\n');
        }
        t.due("a text of 300 bytes", Check.read(x, text.toString()), 0);
        t.due("count(3)", x.count(3), 5);
    }

    private static void goodTexts(Check t) {
        HotPennies x = new HotPennies();
        t.due("no child", Check.read(x, "law0;"), 0);
        t.due("count(3)", x.count(3), 0);
        t.due("blanks everywhere", Check.read(x, " \n law\n\n020 ; drain 5\n4 ;child\napron 0 0 9 ; \n"), 1);
        t.due("count(3)", x.count(3), 20);
        t.due("count(2)", x.count(2), 1);
        t.due("cell(29, 1)", x.cell(29, 1), 1);
        t.due("kind(0)", x.kind(0), 5);
        t.due("child(0, 0)", x.child(0, 0), 0);
        t.due("child(0, 1)", x.child(0, 1), 9);
        t.due("no blanks but where one is needed", Check.read(x, "law1;drain0 4;child small5 0 1;child shy0 4 002;"), 2);
        t.due("cell(24, 1)", x.cell(24, 1), 1);
        t.due("child(0, 0)", x.child(0, 0), 5);
        t.due("child(1, 0)", x.child(1, 0), 24);
        t.due("child(1, 1)", x.child(1, 1), 2);
        t.due("all kinds", Check.read(x, "law 20;child small 1 0 1;child big 1 1 2;child apron 2 2 3;"
                + "child glove 3 3 4;child shy 4 4 5;"), 5);
        int[] kinds = {1, 2, 5, 4, 3};
        for (int c = 0; c < 5; c++) {
            t.due("kind(" + c + ")", x.kind(c), kinds[c]);
            t.due("child(" + c + ", 1)", x.child(c, 1), c + 1);
        }
        t.due("six drains, some told twice", Check.read(x,
                "law 0;drain 0 0;drain 1 0;drain 0 0;drain 2 0;drain 3 0;drain 3 0;"), 0);
        t.due("count(2): cells", x.count(2), 4);
        t.due("fault() before one", x.fault(), 0);
    }

    private static void due(Check t, String text, int place, int number) {
        HotPennies x = new HotPennies();
        t.due("'" + text + "'", Check.read(x, text), -1000100 - place);
        t.due("the fault of '" + text + "'", x.fault(), number);
    }

    private static void cannotStand(Check t) {
        due(t, "", 0, 1);
        due(t, "  ", 2, 1);
        due(t, "law", 3, 1);
        due(t, "law \n", 5, 1);
        due(t, "law 2", 5, 1);
        due(t, " la 2;", 1, 1);
        due(t, "laws 2;", 0, 1);
        due(t, "Law 2;", 0, 1);
        due(t, "laW 2;", 0, 1);
        due(t, "lawW 2;", 3, 1);
        due(t, "lawz 2;", 0, 1);
        due(t, "saw 2;", 0, 1);
        due(t, "lap 2;", 0, 1);
        due(t, "law 2;train 0 0;", 6, 1);
        due(t, "law 2;child pig 0 0 1;", 12, 1);
        due(t, "law law;", 4, 1);
        due(t, "law ;", 4, 1);
        due(t, "law 2000;", 4, 1);
        due(t, "law 0000;", 4, 1);
        due(t, "law 2 3;", 6, 1);
        due(t, "law 2:", 5, 1);
        due(t, "law -2;", 4, 1);
        due(t, "law 2;;", 6, 1);
        due(t, "law 2; 5", 7, 1);
        due(t, "law 2; law 3;", 7, 1);
        due(t, "law 2;\tchild big 0 0 1;", 6, 1);
        due(t, "law 2;\rchild big 0 0 1;", 6, 1);
        due(t, "law 2;" + (char) 0, 6, 1);
        due(t, "law 2;" + (char) 233, 6, 1);
        due(t, "law 2;x", 6, 1);
        due(t, "2 law;", 0, 1);
        due(t, "drain 0 0;law 2;", 0, 1);
        due(t, "law 2;drains 0 0;", 6, 1);
        due(t, "law 2;drain", 11, 1);
        due(t, "law 2;drain 0;", 13, 1);
        due(t, "law 2;drain 0 0 0;", 16, 1);
        due(t, "law 2;drain 0 0", 15, 1);
        due(t, "law 2;drain 0 x;", 14, 1);
        due(t, "law 2;drain 1234 0;", 12, 1);
        due(t, "law 2;child big 0 0 1;drain 0 0;", 22, 1);
        due(t, "law 2;child 0 0 1;", 12, 1);
        due(t, "law 2;child tall 0 0 1;", 12, 1);
        due(t, "law 2;child smal 0 0 1;", 12, 1);
        due(t, "law 2;child bigg 0 0 1;", 12, 1);
        due(t, "law 2;child law 0 0 1;", 12, 1);
        due(t, "law 2;child", 11, 1);
        due(t, "law 2;child ;", 12, 1);
        due(t, "law 2;child big;", 15, 1);
        due(t, "law 2;child big 0;", 17, 1);
        due(t, "law 2;child big 0 0;", 19, 1);
        due(t, "law 2;child big 0 0 1", 21, 1);
        due(t, "law 2;child big 0 0 1 1;", 22, 1);
        due(t, "law 2;child big 0 0 1234;", 20, 1);
        due(t, "law 2;child big 0 0 1;child", 27, 1);
        due(t, "law 2;child big 0 0 1;apron", 22, 1);
        due(t, "law " + "9".repeat(290) + ";", 4, 1);
    }

    private static void notAsTold(Check t) {
        due(t, "law 21;", 4, 2);
        due(t, "law 999 x", 4, 2);
        due(t, "law 2;drain 6 0;", 12, 2);
        due(t, "law 2;drain 5 5;", 14, 2);
        due(t, "law 2;drain 00;", 14, 1);
        due(t, "law 2;drain 12;", 12, 2);
        due(t, "law 2;child big 6 0 1;", 16, 2);
        due(t, "law 2;child big 0 5 1;", 18, 2);
        due(t, "law 2;child big 0 0 0;", 20, 2);
        due(t, "law 2;child big 0 0 10;", 20, 2);
        due(t, "law 2;child big 0 0 100 x", 20, 2);
        due(t, "law 21;law 2000;", 4, 2);
    }

    private static void noRoom(Check t) {
        String drains = "drain 0 0;drain 1 0;drain 2 0;drain 3 0;drain 4 0;drain 0 0;";
        String children = "child big 0 0 1;child big 0 0 1;child big 0 0 1;child big 0 0 1;child big 0 0 1;";
        due(t, "law 2;" + drains + "drain 5 0;", 66, 3);
        due(t, "law 2;" + drains + " drain", 67, 3);
        due(t, "law 2;" + drains + "drain x", 66, 3);
        due(t, "law 2;" + drains + "drains x", 66, 1);
        due(t, "law 2;" + children + "child big 0 0 1;", 86, 3);
        due(t, "law 2;" + children + "\nchild", 87, 3);
        due(t, "law 2;" + children + "drain 0 0;", 86, 1);
        due(t, "law 2;" + drains + children + "childx", 146, 1);
        t.due("six drains, five children", Check.told("law 2;" + drains + children).count(1), 5);
    }

    private static void faultsLeaveAll(Check t) {
        HotPennies x = Check.told("law 3;drain 1 1;child small 2 2 3;child big 0 0 4;");
        x.row(0, 1, 4);
        t.due("toss", x.toss(14, 0, 5, 1), 5);
        t.due("run", x.run(1, 5), 5);
        t.due("image", x.image(1), 1);
        t.due("ask", x.ask(0, 1), 14);
        t.due("a FINDING", x.set(0, 4, 0), Check.PLACE);
        t.due("a fault behind good things", Check.read(x, "law 9;drain 0 0;child shy 1 1 1;child big 2 3 0;"), -1000146);
        t.due("fault()", x.fault(), 2);
        t.due("count(6)", x.count(6), 0);
        t.due("count(0)", x.count(0), 1);
        t.due("count(1)", x.count(1), 2);
        t.due("count(2)", x.count(2), 1);
        t.due("count(3)", x.count(3), 3);
        t.due("count(4)", x.count(4), 2);
        t.due("count(5)", x.count(5), 5);
        t.due("kind(0)", x.kind(0), 1);
        t.due("child(1, 0)", x.child(1, 0), 5);
        t.due("trace(0)", x.trace(0), 21);
        t.due("status()", x.status(), 2);
        t.due("undo()", x.undo(), 1);
        t.due("a fault of another number", Check.read(x, "law 9"), -1000105);
        t.due("fault()", x.fault(), 1);
        t.due("a good text", Check.read(x, "law 9;"), 0);
        t.due("fault() of the latest that was one", x.fault(), 1);
        t.due("restore(1)", x.restore(1), 1);
        t.due("fault()", x.fault(), 1);
    }

    private static void newSquare(Check t) {
        HotPennies x = Check.told("law 3;drain 1 1;child small 2 2 3;child big 0 0 4;");
        Check.tellRow(x, 0, 4, 5);
        t.due("toss", x.toss(14, 0, 5, 1), 5);
        t.due("image", x.image(0), 1);
        t.due("another square", Check.read(x, "law 4;drain 2 2;drain 2 3;child shy 1 1 1;"), 1);
        t.due("count(0), rows stay", x.count(0), 1);
        t.due("count(1)", x.count(1), 1);
        t.due("count(2)", x.count(2), 2);
        t.due("count(3)", x.count(3), 4);
        t.due("count(4)", x.count(4), 0);
        t.due("count(5), nobody has a penny", x.count(5), 0);
        t.due("child(0, 2)", x.child(0, 2), 0);
        t.due("child(1, 0)", x.child(1, 0), Check.BAD);
        t.due("undo()", x.undo(), Check.STATE);
        t.due("restore(0), images stay", x.restore(0), 1);
        t.due("child(0, 2)", x.child(0, 2), 5);
        t.due("child(1, 0)", x.child(1, 0), 0);
        t.due("count(2)", x.count(2), 1);
        t.due("drop(0)", x.drop(0), 2);
    }
}
