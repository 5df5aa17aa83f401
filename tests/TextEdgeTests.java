/** Sentences of "Terms" on text input and on the grammar of a canal, and promises 2 to 5. */
final class TextEdgeTests {
    private static final String SMALL = "canal 3;barge 0 1 0 0;";
    private static final int SPACES = 0x20202020;

    static void run() {
        tokens();
        grammar();
        numbers();
        errors();
        codes();
        appendText();
        loadCanal();
        errorQuestions();
    }

    /** A one-byte token of a script, or what separates: its code. */
    private static int codeOf(int sign) {
        NoodleCanal c = new NoodleCanal();
        c.appendText(sign << 24 | 0x202020, SPACES, SPACES, SPACES, SPACES);
        c.runScript(20);
        return c.errorCode();
    }

    private static void tokens() {
        Document.edge(0, "Texts are read from an input buffer of at most 500 bytes.", () -> {
            NoodleCanal c = new NoodleCanal();
            String text = SMALL + " ".repeat(463) + "order 2 1 1 9;";
            Kit.same(text.length(), 499);
            Kit.same(Kit.append(c, text + "\n"), 500);
            Kit.same("a 501st byte", c.appendText(SPACES, SPACES, SPACES, SPACES, SPACES), -1);
            Kit.argumentError(() -> c.loadCanal(501));
            Kit.same("all 500 are read", c.loadCanal(500), 1);
            Kit.same(c.orderPlace(0), 2);
            Kit.same(Kit.load(c, text + "x"), -1);
            Kit.same("the last byte is read", c.errorOffset(), 499);
        });
        Document.edge(0, "A word is a maximal run of the letters a to z.", () -> {
            Kit.loadFails("cana l 3;barge 0 1 0 0;", 1, 0);
            Kit.loadFails("canals 3;barge 0 1 0 0;", 1, 0);
            Kit.loadFails("canala 3;barge 0 1 0 0;", 1, 0);
            Kit.loadFails("canalz 3;barge 0 1 0 0;", 1, 0);
            Kit.loadFails("acanal 3;barge 0 1 0 0;", 1, 0);
            Kit.loadFails("zcanal 3;barge 0 1 0 0;", 1, 0);
            Kit.loadFails("danal 3;barge 0 1 0 0;", 1, 0);
            Kit.loadFails("canak 3;barge 0 1 0 0;", 1, 0);
            Kit.loadFails("canal` 3;barge 0 1 0 0;", 1, 5);
            Kit.loadFails("canal{ 3;barge 0 1 0 0;", 1, 5);
            Kit.loadFails("Canal 3;barge 0 1 0 0;", 1, 0);
            Kit.loadFails("canaL 3;barge 0 1 0 0;", 1, 0);
            Kit.same("a number ends it", Kit.load(new NoodleCanal(), "canal3;barge0 1 0 0;"), 1);
        });
        Document.edge(0, "A number is a maximal run of decimal digits of any length.", () -> {
            Kit.same(Kit.canal("canal " + "0".repeat(470) + "3;barge 0 1 0 0;").placeCount(), 3);
            Kit.loadFails("canal " + "9".repeat(494), 2, 6);
            Kit.loadFails("canal 1" + "0".repeat(460) + "3;barge 0 1 0 0;", 2, 6);
            for (String wrapped : new String[] {"2147483648", "2147483651", "4294967296", "4294967299", "9223372036854775811", "18446744073709551619", "340282366920938463463374607431768211459"}) {
                Kit.loadFails("canal " + wrapped + ";barge 0 1 0 0;", 2, 6);
            }
            Kit.loadFails("canal 1 6;barge 0 1 0 0;", 2, 6);
            Kit.loadFails("canal 3 3;barge 0 1 0 0;", 1, 8);
            Kit.loadFails("canal 3/;barge 0 1 0 0;", 1, 7);
            Kit.loadFails("canal 3:;barge 0 1 0 0;", 1, 7);
            Kit.loadFails("canal 3a;barge 0 1 0 0;", 1, 7);
        });
        Document.edge(0, "The characters ; and ( and ) are tokens.", () -> {
            Kit.loadFails("canal 3;;barge 0 1 0 0;", 1, 8);
            Kit.loadFails("canal 3(barge 0 1 0 0;", 1, 7);
            Kit.loadFails("canal 3)barge 0 1 0 0;", 1, 7);
            Kit.same("they end words and numbers", Kit.script(new NoodleCanal(), "repeat2(wait1;repeat2(););"), 2);
            Kit.same("and may stand apart", Kit.script(new NoodleCanal(), "repeat 2 ( wait 1 ; ) ;"), 2);
        });
        Document.edge(0, "Spaces (byte 32) and line feeds (byte 10) separate tokens and have no other meaning.", () -> {
            for (int sign : new int[] {10, 32}) Kit.same("byte " + sign, codeOf(sign), 0);
            for (int sign : new int[] {9, 11, 12, 13, 31, 33}) Kit.same("byte " + sign, codeOf(sign), 1);
            Kit.same("many of them", Kit.load(new NoodleCanal(), "\n \ncanal\n\n3  ;\n\nbarge\n0 1\n0 0\n;\n \n"), 1);
            Kit.same("none of them", Kit.load(new NoodleCanal(), "canal3;lock0 1;bridge0 1;barge0 1 0 0;order0 1 1 1;"), 1);
            Kit.loadFails("can\nal 3;", 1, 0);
            Kit.loadFails("canal 1\n6;", 2, 6);
        });
        Document.edge(0, "Every other byte is an invalid token.", () -> {
            for (int sign = 0; sign < 256; sign++) Kit.same("byte " + sign, codeOf(sign), sign == 32 || sign == 10 ? 0 : 1);
            for (int sign : new int[] {0, 9, 13, 31, 33, 39, 42, 47, 58, 60, 64, 65, 90, 91, 96, 123, 127, 128, 160, 255}) {
                String invalid = String.valueOf((char) sign);
                Kit.loadFails("canal 3;" + invalid + "barge 0 1 0 0;", 1, 8);
                Kit.loadFails("canal" + invalid + "3;barge 0 1 0 0;", 1, 5);
                Kit.loadFails(SMALL + invalid, 1, 22);
                Kit.scriptFails("wait 1;" + invalid, 1, 7);
            }
        });
    }

    private static void grammar() {
        Document.edge(0, "canal = \"canal\" places \";\" { \"lock\" section wait \";\" | \"bridge\" section clearance \";\" } barge { barge } { order }", () -> {
            Kit.same("the shortest", Kit.load(new NoodleCanal(), SMALL), 1);
            NoodleCanal c = Kit.canal("canal 4;bridge 2 1;lock 0 2;bridge 0 3;lock 2 4;lock 1 5;barge 0 1 0 0;barge 1 1 0 0;order 0 1 1 1;order 1 1 1 1;");
            Kit.same(c.lockWait(0) * 100 + c.lockWait(1) * 10 + c.lockWait(2), 254);
            Kit.same(c.clearance(0) * 100 + c.clearance(1) * 10 + c.clearance(2), 301);
            Kit.same(c.bargeCount() * 10 + c.orderCount(), 22);
            Kit.loadFails("canal 3;lock 0 1;", 1, 17);
            Kit.loadFails("canal 3;order 0 1 1 1;", 1, 8);
            Kit.loadFails("barge 0 1 0 0;", 1, 0);
            Kit.loadFails("3;barge 0 1 0 0;", 1, 0);
            Kit.loadFails("canal 3;canal 3;", 1, 8);
            Kit.loadFails(SMALL + "lock 0 1;", 1, 22);
            Kit.loadFails(SMALL + "bridge 0 1;", 1, 22);
            Kit.loadFails(SMALL + "order 0 1 1 1;barge 0 1 0 0;", 1, 36);
            Kit.loadFails(SMALL + "order 0 1 1 1;lock 0 1;", 1, 36);
            Kit.loadFails(SMALL + ";", 1, 22);
            Kit.loadFails(SMALL + "sail 0 1;", 1, 22);
            Kit.loadFails("canal;", 1, 5);
            Kit.loadFails("canal 3 lock 0 1;", 1, 8);
            Kit.loadFails("canal 3;lock 0;", 1, 14);
            Kit.loadFails("canal 3;lock 0 1 1;", 1, 17);
            Kit.loadFails("canal 3;bridge 0;", 1, 16);
            Kit.loadFails("canal 3;bridge 0 1 1;", 1, 19);
        });
        Document.edge(0, "braces enclose what may occur any number of times (also not at all)", () -> {
            StringBuilder s = new StringBuilder("canal 16;");
            for (int i = 0; i < 15; i++) s.append("lock ").append(i).append(" 9;bridge ").append(i).append(" 8;");
            NoodleCanal c = Kit.canal(s + "barge 0 1 0 0;");
            for (int i = 0; i < 15; i++) Kit.same(c.lockWait(i) * 10 + c.clearance(i), 98);
            NoodleCanal most = Kit.canal("canal 3;" + "barge0 1 0 0;".repeat(5) + "order0 1 1 1;".repeat(30));
            Kit.same(most.bargeCount() * 100 + most.orderCount(), 530);
            NoodleCanal least = Kit.canal(SMALL);
            Kit.same(least.bargeCount() * 100 + least.orderCount() + least.lockWait(0) + least.lockWait(1) + least.clearance(0) + least.clearance(1), 100);
        });
        Document.edge(0, "barge = \"barge\" place height flour pairs \";\"", () -> {
            NoodleCanal c = Kit.canal("canal 3;barge 2 3 4 5;");
            Kit.same(c.placeOf(0) * 1000 + c.heightOf(0) * 100 + c.flour(0) * 10 + c.cleanPairs(0), 2345);
            Kit.loadFails("canal 3;barge;", 1, 13);
            Kit.loadFails("canal 3;barge 0 1 0;", 1, 19);
            Kit.loadFails("canal 3;barge 0 1 0 0 0;", 1, 22);
            Kit.loadFails("canal 3;barge 0 1 0 0", 1, 21);
        });
        Document.edge(0, "order = \"order\" place bowls pulls minutes \";\"", () -> {
            NoodleCanal c = Kit.canal(SMALL + "order 2 3 4 5;");
            Kit.same(c.orderPlace(0) * 1000 + c.bowls(0) * 100 + c.pullsLeft(0) * 10 + c.deadline(0), 2344);
            Kit.loadFails(SMALL + "order;", 1, 27);
            Kit.loadFails(SMALL + "order 0 1 1;", 1, 33);
            Kit.loadFails(SMALL + "order 0 1 1 1 1;", 1, 36);
            Kit.loadFails(SMALL + "order 0 1 1 1", 1, 35);
        });
    }

    private static void numbers() {
        Document.edge(0, "places 3 to 16", () -> Kit.canalRange("canal ", ";barge 0 1 0 0;", 3, 16));
        Document.edge(0, "section 0 to places minus 2", () -> {
            for (int places : new int[] {3, 7, 16}) {
                Kit.canalRange("canal " + places + ";lock ", " 4;barge 0 1 0 0;", 0, places - 2);
                Kit.canalRange("canal " + places + ";bridge ", " 4;barge 0 1 0 0;", 0, places - 2);
            }
        });
        Document.edge(0, "wait and clearance 1 to 9", () -> {
            Kit.canalRange("canal 7;lock 0 ", ";barge 0 1 0 0;", 1, 9);
            Kit.canalRange("canal 7;bridge 0 ", ";barge 0 1 0 0;", 1, 9);
        });
        Document.edge(0, "place 0 to places minus 1", () -> {
            for (int places : new int[] {3, 7, 16}) {
                Kit.canalRange("canal " + places + ";barge ", " 1 0 0;", 0, places - 1);
                Kit.canalRange("canal " + places + ";barge 0 1 0 0;order ", " 1 1 1;", 0, places - 1);
            }
        });
        Document.edge(0, "height 1 to 9", () -> Kit.canalRange("canal 3;barge 0 ", " 0 0;", 1, 9));
        Document.edge(0, "flour 0 to 99", () -> Kit.canalRange("canal 3;barge 0 1 ", " 0;", 0, 99));
        Document.edge(0, "pairs 0 to 99, which are clean", () -> {
            Kit.canalRange("canal 3;barge 0 1 0 ", ";", 0, 99);
            NoodleCanal c = Kit.canal("canal 3;barge 0 1 0 99;");
            Kit.same(c.cleanPairs(0) * 100 + c.dirtyPairs(0) + c.usedPairs(0), 9900);
        });
        Document.edge(0, "minutes 1 to 500", () -> {
            Kit.canalRange(SMALL + "order 0 1 1 ", ";", 1, 500);
            Kit.scriptRange("order 0 1 1 ", ";", 1, 500);
        });
        Document.edge(0, "bowls 1 to 4", () -> {
            Kit.canalRange(SMALL + "order 0 ", " 1 1;", 1, 4);
            Kit.scriptRange("order 0 ", " 1 1;", 1, 4);
        });
        Document.edge(0, "pulls 1 to 6", () -> {
            Kit.canalRange(SMALL + "order 0 1 ", " 1;", 1, 6);
            Kit.scriptRange("order 0 1 ", " 1;", 1, 6);
        });
        Document.edge(0, "The deadline of an order is its minutes minus 1.", () -> {
            NoodleCanal c = new NoodleCanal();
            c.passMinutes(60);
            Kit.load(c, SMALL + "order 0 1 1 1;order 0 1 1 2;order 0 1 1 500;");
            Kit.same(c.deadline(0), 0);
            Kit.same(c.deadline(1), 1);
            Kit.same(c.deadline(2), 499);
        });
    }

    private static void errors() {
        Document.edge(0, "Parsing stops at the first token that causes an error.", () -> {
            Kit.loadFails("canal 2;barge 0 0 0 0;x", 2, 6);
            Kit.loadFails("canal 3;barge 3 0 100 x", 2, 14);
            Kit.loadFails("canal 3;lock 0 1;lock 0 10;", 3, 22);
            Kit.loadFails("x canal 2;", 1, 0);
            Kit.scriptFails("wait 61;wait 0;x", 2, 5);
            Kit.scriptFails("wait 1;x 61;", 1, 7);
        });
        Document.edge(0, "The error offset is the offset of the first byte of this token", () -> {
            Kit.loadFails("canal 00017;", 2, 6);
            Kit.loadFails("canal \n 17;", 2, 8);
            Kit.loadFails("canal 3;  barg 0", 1, 10);
            Kit.loadFails(" x", 1, 1);
            Kit.loadFails("x", 1, 0);
            Kit.loadFails(" ".repeat(499) + "x", 1, 499);
        });
        Document.edge(0, "or the length of the text if the text ends too early", () -> {
            Kit.loadFails("", 1, 0);
            Kit.loadFails("   ", 1, 3);
            Kit.loadFails("canal 3", 1, 7);
            Kit.loadFails("canal 3 \n ", 1, 10);
            Kit.loadFails("canal 3;barge 0 1 0 0" + " ".repeat(479), 1, 500);
            Kit.scriptFails("wait", 1, 4);
            Kit.scriptFails("wait 1", 1, 6);
            Kit.scriptFails("repeat 2 (wait 1;  ", 1, 19);
            NoodleCanal c = new NoodleCanal();
            Kit.append(c, SMALL);
            Kit.same("not the length of the buffer", c.loadCanal(21), -1);
            Kit.same(c.errorOffset(), 21);
        });
        Document.edge(0, "If several errors apply to the same token, the one with the smallest code is reported.", () -> {
            String five = "canal 3;" + "barge 0 1 0 0;".repeat(5);
            Kit.loadFails("canal 3 99;", 1, 8);
            Kit.loadFails("canal 3;lock 0 1 0;", 1, 17);
            Kit.loadFails("canal 3;lock 0 1;lock 2 1;", 2, 22);
            Kit.loadFails(five + "order 0 1 1 1;barge 0 1 0 0;", 1, 92);
            Kit.loadFails(SMALL + "order 0 1 1 1;".repeat(30) + "barge", 1, 442);
            Kit.scriptFails("wait 1;".repeat(20) + "canal", 1, 140);
            Kit.scriptFails("wait 1;".repeat(20) + "99", 1, 140);
        });
    }

    private static void codes() {
        Document.edge(0, "Code 1: the token is not allowed at this place, it is invalid, or the text ends too early.", () -> {
            Kit.loadFails("canal 3;3", 1, 8);
            Kit.loadFails("canal 3;A", 1, 8);
            Kit.loadFails("canal 3;", 1, 8);
            cutAnywhere("canal 3;lock 0 1;bridge 1 1;barge 0 1 0 0;order 0 1 1 1;", 42, 56);
        });
        Document.edge(0, "Code 2: a number is out of range.", () -> {
            Kit.loadFails("canal 2;", 2, 6);
            Kit.loadFails("canal 17", 2, 6);
            Kit.loadFails("canal 3;lock 2", 2, 13);
            Kit.loadFails("canal 3;barge 3", 2, 14);
            Kit.loadFails("canal 3;barge 0 1 100", 2, 18);
        });
        Document.edge(0, "Code 3: the section of a lock that has a lock already, or of a bridge that has a bridge already.", () -> {
            Kit.loadFails("canal 3;lock 0 1;lock 0 1;barge 0 1 0 0;", 3, 22);
            Kit.loadFails("canal 3;lock 1 1;lock 0 1;lock 01", 3, 31);
            Kit.loadFails("canal 3;bridge 0 1;bridge 0 1;barge 0 1 0 0;", 3, 26);
            Kit.loadFails("canal 16;bridge 14 9;lock 14 9;bridge 14", 3, 38);
            Kit.same("a lock and a bridge", Kit.load(new NoodleCanal(), "canal 3;lock 0 1;bridge 0 1;barge 0 1 0 0;"), 1);
            Kit.same("the section beside", Kit.load(new NoodleCanal(), "canal 3;lock 0 1;lock 1 1;barge 0 1 0 0;"), 1);
            NoodleCanal c = Kit.canal("canal 3;lock 0 1;bridge 1 1;barge 0 1 0 0;");
            Kit.same("of an earlier canal", Kit.load(c, "canal 3;lock 0 1;bridge 1 1;barge 0 1 0 0;"), 1);
        });
        Document.edge(0, "Code 4: the first word of the 6th barge", () -> {
            String five = "canal 3;" + "barge 0 1 0 0;".repeat(5);
            Kit.same(Kit.load(new NoodleCanal(), five), 5);
            Kit.loadFails(five + "barge 0 1 0 0;", 4, 78);
            Kit.loadFails(five + " barge", 4, 79);
            Kit.loadFails(five + "barg", 1, 78);
        });
        Document.edge(0, "or the 31st order of a canal", () -> {
            String thirty = SMALL + "order 0 1 1 9;".repeat(30);
            Kit.same(Kit.canal(thirty).orderCount(), 30);
            Kit.loadFails(thirty + "order 0 1 1 9;", 4, 442);
            Kit.loadFails(thirty + "\norder", 4, 443);
            Kit.loadFails(thirty + "orde", 1, 442);
        });
    }

    /** Each beginning of a canal whose numbers have one digit: whole at two lengths, otherwise it ends too early or in a word. */
    private static void cutAnywhere(String text, int whole, int all) {
        Kit.same(text.length(), all);
        for (int length = 0; length <= all; length++) {
            if (length == whole || length == all) {
                Kit.same(text.substring(0, length), Kit.load(new NoodleCanal(), text.substring(0, length)), 1);
                continue;
            }
            int first = length;
            if (length > 0 && Character.isLetter(text.charAt(length - 1)) && Character.isLetter(text.charAt(length))) {
                while (first > 0 && Character.isLetter(text.charAt(first - 1))) first--;
            }
            Kit.loadFails(text.substring(0, length), 1, first);
        }
    }

    private static void appendText() {
        Document.edge(2, "the four bytes of each parameter, the most significant byte first", () -> {
            NoodleCanal c = new NoodleCanal();
            // "canal 3;barge 0 1 12" and " 34;" with signs that are negative as ints behind it.
            c.appendText(0x63616e61, 0x6c20333b, 0x62617267, 0x65203020, 0x31203132);
            c.appendText(0x2033343b, 0xffffffff, 0x80000000, SPACES, SPACES);
            Kit.same(c.loadCanal(24), 1);
            Kit.same(c.flour(0), 12);
            Kit.same(c.cleanPairs(0), 34);
        });
        String[] parts = {"`a`: bytes 0 to 3", "`b`: bytes 4 to 7", "`c`: bytes 8 to 11", "`d`: bytes 12 to 15", "`e`: bytes 16 to 19"};
        for (int part = 0; part < 5; part++) {
            int number = part;
            Document.edge(2, parts[part], () -> {
                for (int at = 0; at < 4; at++) {
                    for (int sign : new int[] {0, 127, 128, 255}) {
                        int[] n = {SPACES, SPACES, SPACES, SPACES, SPACES};
                        int shift = 24 - 8 * at;
                        n[number] = n[number] & ~(255 << shift) | sign << shift;
                        NoodleCanal c = new NoodleCanal();
                        c.appendText(n[0], n[1], n[2], n[3], n[4]);
                        Kit.same(c.runScript(20), -1);
                        Kit.same("byte " + at + " is " + sign, c.errorOffset(), 4 * number + at);
                    }
                }
            });
        }
        Document.edge(2, "Returns the new number of bytes in the buffer; -1 if it would exceed 500, in which case nothing is appended.", () -> {
            NoodleCanal c = new NoodleCanal();
            for (int filled = 20; filled <= 480; filled += 20) Kit.same(c.appendText(SPACES, SPACES, SPACES, SPACES, SPACES), filled);
            Kit.same("480 and 20", c.appendText(SPACES, SPACES, SPACES, SPACES, 0x20207820), 500);
            for (int times = 0; times < 3; times++) Kit.same("500 and 20", c.appendText(0x7a7a7a7a, 0, 0, 0, 0), -1);
            Kit.argumentError(() -> c.runScript(501));
            Kit.same(c.runScript(500), -1);
            Kit.same("nothing else is in it", c.errorOffset(), 498);
            Kit.same("emptied", c.appendText(0, 0, 0, 0, 0), 20);
        });
    }

    private static void loadCanal() {
        Document.edge(3, "Parses the first bytes of the input buffer as a canal.", () -> {
            String text = SMALL + "order 0 1 1 1;";
            for (int length : new int[] {0, 1, 21, 22, 23, 35, 36, 40}) {
                NoodleCanal c = new NoodleCanal();
                Kit.append(c, text);
                boolean whole = length == 22 || length >= 36;
                Kit.same("length " + length, c.loadCanal(length), whole ? 1 : -1);
                if (whole) Kit.same("length " + length, c.orderCount(), length == 22 ? 0 : 1);
            }
        });
        Document.edge(3, "it is minute 0, there are 0 coins, all orders are open, nobody sails, there are no used or dirty chopsticks, the undo history is cleared, and the snapshot is discarded", () -> {
            String text = "canal 3;barge 0 1 9 9;barge 1 1 9 9;order 0 4 1 9;order 1 1 1 9;order 1 1 6 99;";
            NoodleCanal c = new NoodleCanal();
            for (int times = 0; times < 3; times++) {
                Kit.load(c, "canal 3;lock 1 9;bridge 0 9;barge 0 1 9 9;barge 1 1 9 9;order 0 4 1 9;order 1 1 1 9;order 1 1 6 99;order 1 1 1 1;");
                Kit.script(c, "take 0 0;take 1 1;wait 1;collect 0;take 1 2;sail 1 2;wait 2;flour 0 1;");
                c.saveSnapshot();
                // Each time something else has been in the object's hands: nothing, a forecast, a text that is no canal.
                if (times == 1) c.coinsAfter(5);
                if (times == 2) Kit.load(c, "canal 9;lock 7 1;bridge 1 1;barge 8 9 99 99;order 8 1 1 1;x");
                Kit.same(c.timeInLock(1) * 100 + c.eatenBowls() * 10 + c.expiredOrders(), 851);
                Kit.same(Kit.load(c, text), 2);
                checkNewCanal(c);
                Kit.same(Kit.look(c), Kit.look(Kit.canal(text)));
            }
        });
        Document.edge(3, "The buffer is emptied in any case.", () -> {
            for (String text : new String[] {SMALL, "canal 2;", "x", ""}) {
                NoodleCanal c = new NoodleCanal();
                int length = Kit.append(c, text);
                c.loadCanal(length);
                Kit.argumentError(() -> c.loadCanal(1));
                Kit.argumentError(() -> c.runScript(1));
                Kit.same(c.appendText(0, 0, 0, 0, 0), 20);
            }
            NoodleCanal c = new NoodleCanal();
            Kit.append(c, SMALL);
            c.loadCanal(0);
            Kit.argumentError(() -> c.loadCanal(1));
        });
        Document.edge(3, "Returns the number of barges; -1 if there is a parse error, in which case the canal stays as it is.", () -> {
            for (int barges = 1; barges <= 5; barges++) Kit.same(Kit.load(new NoodleCanal(), "canal 3;" + "barge 0 1 0 0;".repeat(barges)), barges);
            for (String wrong : new String[] {"", "canal 2;", "canal 9;lock 0 1;barge 1 1 1 1;order 0 1 1 1;x", "canal 3;barge 0 1 0 0;order 0 1 1 501;"}) {
                NoodleCanal c = Kit.busy(new NoodleCanal());
                c.runScript(0);
                c.passMinutes(2);
                String before = Kit.lookAtCanal(c);
                Kit.same(wrong, Kit.load(c, wrong), -1);
                Kit.same(wrong, Kit.lookAtCanal(c), before);
                Kit.same("the history stays", c.undoableCount(), 3);
                Kit.same("the history stays", c.undo(), 2);
                Kit.same(c.minute(), 0);
                Kit.same("the snapshot stays", c.restoreSnapshot(), 0);
            }
        });
        Document.edge(3, "Throws `IllegalArgumentException` if length is negative or greater than the number of bytes in the buffer; the buffer is not emptied then", () -> {
            Kit.Made made = () -> Kit.busy(new NoodleCanal());
            for (int n : new int[] {-1, -2, 41, 42, 500, 501, Integer.MIN_VALUE, Integer.MAX_VALUE}) Kit.argumentRefused(made, c -> c.loadCanal(n));
            Kit.same("as long as the buffer", made.get().loadCanal(40), -1);
            Kit.same("no byte of it", made.get().loadCanal(0), -1);
            NoodleCanal c = new NoodleCanal();
            Kit.append(c, SMALL);
            Kit.argumentError(() -> c.loadCanal(41));
            Kit.same("the buffer is not emptied", c.loadCanal(40), 1);
        });
    }

    private static void checkNewCanal(NoodleCanal c) {
        Kit.same(c.minute() + c.coins() + c.undoableCount() + c.expiredOrders() + c.eatenBowls(), 0);
        for (int order = 0; order < 3; order++) Kit.same(c.isOpen(order), true);
        for (int barge = 0; barge < 2; barge++) Kit.same(c.targetOf(barge) * 10 + c.dirtyPairs(barge), c.placeOf(barge) * 10);
        for (int place = 0; place < 3; place++) Kit.same(c.usedPairs(place), 0);
        Kit.same(c.bargeInLock(1), -1);
        Kit.same(c.gap(), 0);
        Kit.stateError(c::undo);
        Kit.stateError(c::restoreSnapshot);
    }

    private static void errorQuestions() {
        Document.edge(4, "Returns 1 to 4; 0 if that call found no error or there was no such call.", () -> {
            NoodleCanal c = new NoodleCanal();
            Kit.same("no such call", c.errorCode(), 0);
            String[] texts = {"x", "canal 2", "canal 3;lock 0 1;lock 0 1;", "canal 3;" + "barge 0 1 0 0;".repeat(6)};
            for (int code = 1; code <= 4; code++) {
                Kit.load(c, texts[code - 1]);
                Kit.same(c.errorCode(), code);
            }
            Kit.load(c, SMALL);
            Kit.same("no error", c.errorCode(), 0);
            Kit.script(c, "wait 61;");
            Kit.same("of a script", c.errorCode(), 2);
            Kit.script(c, "drop 0;");
            Kit.same("a script that stops", c.errorCode(), 0);
        });
        Document.edge(4, "of the latest call of loadCanal or runScript that did not throw", () -> {
            NoodleCanal c = new NoodleCanal();
            Kit.load(c, "canal 2");
            Kit.argumentError(() -> c.loadCanal(1));
            Kit.argumentError(() -> c.runScript(-1));
            Kit.same(c.errorCode(), 2);
            Kit.script(c, "x");
            Kit.same(c.errorCode(), 1);
            c.runScript(0);
            Kit.argumentError(() -> c.runScript(1));
            Kit.same(c.errorCode(), 0);
        });
        Document.edge(5, "Returns the offset; -1 if that call found no error or there was no such call.", () -> {
            NoodleCanal c = new NoodleCanal();
            Kit.same("no such call", c.errorOffset(), -1);
            Kit.load(c, "x");
            Kit.same("the least one", c.errorOffset(), 0);
            Kit.load(c, " ".repeat(500));
            Kit.same("the greatest one", c.errorOffset(), 500);
            Kit.load(c, SMALL);
            Kit.same("no error", c.errorOffset(), -1);
            Kit.script(c, "wait 61;");
            Kit.same("of a script", c.errorOffset(), 5);
            Kit.script(c, "drop 0;");
            Kit.same("a script that stops", c.errorOffset(), -1);
        });
        Document.edge(5, "of the latest call of loadCanal or runScript that did not throw", () -> {
            NoodleCanal c = new NoodleCanal();
            Kit.load(c, "canal 2");
            Kit.argumentError(() -> c.loadCanal(1));
            Kit.argumentError(() -> c.runScript(-1));
            Kit.same(c.errorOffset(), 6);
            Kit.script(c, "x");
            Kit.same(c.errorOffset(), 0);
            c.runScript(0);
            Kit.argumentError(() -> c.runScript(1));
            Kit.same(c.errorOffset(), -1);
        });
    }
}
