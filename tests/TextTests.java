/** Promises 2 to 5: the input buffer, the grammar of a canal and its errors. */
final class TextTests {
    private static final String SMALL = "canal 3;barge 0 1 0 0;";

    static void run() {
        appending();
        loading();
        numbers();
        tokens();
        orderOfParts();
        limits();
        errors();
    }

    private static void appending() {
        Kit.test(2, "the most significant byte first", () -> {
            NoodleCanal c = new NoodleCanal();
            // "canal 3;barge 0 1 7 " and "8;"
            Kit.same(c.appendText(0x63616e61, 0x6c20333b, 0x62617267, 0x65203020, 0x31203720), 20);
            Kit.same(c.appendText(0x383b2020, 0x20202020, 0x20202020, 0x20202020, 0x20202020), 40);
            Kit.same(c.loadCanal(22), 1);
            Kit.same(c.flour(0), 7);
            Kit.same(c.cleanPairs(0), 8);
        });
        Kit.test(2, "at most 500 bytes", () -> {
            NoodleCanal c = new NoodleCanal();
            Kit.append(c, SMALL);
            for (int n = 60; n <= 500; n += 20) Kit.same(c.appendText(0x20202020, 0x20202020, 0x20202020, 0x20202020, 0x20202020), n);
            Kit.same(c.appendText(0x61616161, 0, 0, 0, 0), -1);
            Kit.same(c.appendText(0x61616161, 0, 0, 0, 0), -1);
            Kit.argumentError(() -> c.loadCanal(501));
            Kit.same(c.loadCanal(500), 1);
            Kit.same(c.appendText(0, 0, 0, 0, 0), 20);
        });
        Kit.test(2, "each byte of each parameter", () -> {
            for (int at = 0; at < 20; at++) {
                int[] n = new int[5];
                java.util.Arrays.fill(n, 0x20202020);
                n[at / 4] ^= 0x10 << (24 - 8 * (at % 4));
                NoodleCanal c = new NoodleCanal();
                Kit.same(c.appendText(n[0], n[1], n[2], n[3], n[4]), 20);
                Kit.same(c.runScript(20), -1);
                Kit.same(c.errorOffset(), at);
            }
        });
        Kit.test(2, "bytes from 128 on are no letters and no digits", () -> {
            for (int sign = 0; sign < 256; sign++) {
                NoodleCanal c = new NoodleCanal();
                c.appendText(sign << 24 | 0x202020, 0x20202020, 0x20202020, 0x20202020, 0x20202020);
                boolean separates = sign == 32 || sign == 10;
                Kit.same("byte " + sign, c.runScript(20), separates ? 0 : -1);
                Kit.same("byte " + sign, c.errorOffset(), separates ? -1 : 0);
            }
        });
    }

    private static void loading() {
        Kit.test(3, "answers the number of barges", () -> {
            NoodleCanal c = new NoodleCanal();
            Kit.same(Kit.load(c, SMALL), 1);
            Kit.same(Kit.load(c, "canal 5;barge 0 1 0 0;barge 1 2 3 4;barge 2 3 4 5;barge 3 9 99 99;barge 4 1 1 1;"), 5);
            Kit.same(c.bargeCount(), 5);
            Kit.same(c.placeOf(3), 3);
            Kit.same(c.targetOf(3), 3);
            Kit.same(c.heightOf(3), 9);
            Kit.same(c.flour(3), 99);
            Kit.same(c.cleanPairs(3), 99);
        });
        Kit.test(3, "a new canal begins anew", () -> {
            NoodleCanal c = new NoodleCanal();
            Kit.script(c, "take 1 0;take 1 2;take 0 1;wait 5;collect 1;sail 0 5;wait 4;order 5 1 1 9;wait 20;flour 0 1;");
            c.saveSnapshot();
            c.passMinutes(1);
            Kit.same(Kit.load(c, "canal 6;barge 2 5 4 2;order 2 2 3 20;"), 1);
            Kit.same(Kit.lookAtCanal(c), "minute 0 coins 0 eaten 0 expired 0 share 0.0 mean 2.0 gap 0"
                + "\nplace 0 0 0 section 0 0 -1\nplace 0 0 0 section 0 0 -1\nplace 0 1 1 section 0 0 -1"
                + "\nplace 0 0 0 section 0 0 -1\nplace 0 0 0 section 0 0 -1\nplace 0 0 0"
                + "\nbarge 2 2 5 0 4 2 0 0 0\norder 2 2 3 19 12 -1 truefalsefalse");
            Kit.same(c.undoableCount(), 0);
            Kit.stateError(c::undo);
            Kit.stateError(c::restoreSnapshot);
        });
        Kit.test(3, "nothing of a canal that was forecast or loaded before comes back", () -> {
            NoodleCanal c = new NoodleCanal();
            c.take(1, 0);
            c.sail(0, 5);
            c.coinsAfter(3);
            Kit.load(c, "canal 6;lock 1 3;barge 0 3 10 6;barge 2 5 4 2;order 2 2 3 20;");
            Kit.same(c.queueLength(1), 0);
            Kit.same(c.targetOf(0), 0);
            Kit.same(c.bargeInLock(1), -1);
            Kit.same(c.lockWait(4), 0);
            Kit.same(c.bargeOf(0), -1);
            Kit.same(c.pullsLeft(0), 3);
        });
        Kit.test(3, "nothing of any earlier canal comes back, however often one is loaded", () -> {
            String plain = "canal 3;barge 0 1 0 0;barge 1 2 3 4;order 1 1 1 9;order 0 4 6 50;";
            String due = Kit.lookAtCanal(Kit.canal(plain));
            NoodleCanal c = new NoodleCanal();
            for (int i = 0; i < 4; i++) {
                Kit.load(c, "canal 3;lock 0 9;bridge 0 2;barge 0 1 50 50;barge 0 2 50 50;order 0 2 1 9;order 1 2 2 2;order 0 1 1 60;order 2 1 6 60;");
                Kit.script(c, "take 0 0;take 0 1;wait 1;collect 0;collect 1;take 1 2;wait 5;flour 1 9;sail 0 1;take 0 3;wait 3;");
                Kit.same(c.queueLength(0), 1);
                Kit.same(c.timeInLock(0), 7);
                Kit.same(c.eatenBowls() + c.expiredOrders(), 4);
                if (i % 2 == 1) c.coinsAfter(9);
                if (i > 1) Kit.load(c, "x");
                Kit.same(Kit.load(c, plain), 2);
                Kit.same("load " + i, Kit.lookAtCanal(c), due);
            }
        });
        Kit.test(3, "a parse error leaves the canal, the history and the snapshot", () -> {
            NoodleCanal c = new NoodleCanal();
            c.saveSnapshot();
            c.passMinutes(2);
            String before = Kit.lookAtCanal(c);
            Kit.same(Kit.load(c, "canal 9;lock 0 1;barge 1 1 1 1;order 0 1 1 1;x"), -1);
            Kit.same(Kit.lookAtCanal(c), before);
            Kit.same(c.undoableCount(), 1);
            Kit.same(c.undo(), 0);
            Kit.same(c.minute(), 0);
            Kit.same(c.restoreSnapshot(), 0);
        });
        Kit.test(3, "the buffer is emptied in any case", () -> {
            NoodleCanal c = new NoodleCanal();
            Kit.load(c, SMALL);
            Kit.argumentError(() -> c.loadCanal(1));
            Kit.same(Kit.load(c, "x"), -1);
            Kit.argumentError(() -> c.loadCanal(1));
            Kit.same(c.appendText(0, 0, 0, 0, 0), 20);
        });
        Kit.test(3, "a wrong length throws and keeps the buffer", () -> {
            NoodleCanal c = new NoodleCanal();
            Kit.append(c, SMALL);
            for (int n : new int[] {-1, 41, 500, Integer.MIN_VALUE, Integer.MAX_VALUE}) Kit.refused(c, "IllegalArgumentException", () -> c.loadCanal(n));
            Kit.same(c.loadCanal(40), 1);
            Kit.argumentError(() -> c.loadCanal(-1));
        });
        Kit.test(3, "only the first bytes are parsed", () -> {
            NoodleCanal c = new NoodleCanal();
            Kit.append(c, SMALL + "barge 1 1 1 1;");
            Kit.same(c.loadCanal(22), 1);
            Kit.append(c, SMALL + "barge 1 1 1 1;");
            Kit.same(c.loadCanal(36), 2);
            Kit.append(c, SMALL);
            Kit.same(c.loadCanal(21), -1);
            Kit.same(c.errorCode(), 1);
            Kit.same(c.errorOffset(), 21);
        });
        Kit.test(3, "a text of no bytes", () -> {
            NoodleCanal c = new NoodleCanal();
            Kit.same(c.loadCanal(0), -1);
            Kit.same(c.errorCode(), 1);
            Kit.same(c.errorOffset(), 0);
        });
        Kit.test(3, "the deadline of an order is its minutes minus 1", () -> {
            NoodleCanal c = new NoodleCanal();
            c.passMinutes(9);
            Kit.load(c, SMALL + "order 2 4 6 500;order 1 1 1 1;");
            Kit.same(c.deadline(0), 499);
            Kit.same(c.deadline(1), 0);
            Kit.same(c.bowls(0), 4);
            Kit.same(c.pullsLeft(0), 6);
            Kit.same(c.orderPlace(0), 2);
        });
    }

    private static void numbers() {
        Kit.test(3, "ranges of the numbers of a canal", () -> {
            Kit.canalRange("canal ", ";barge 0 1 0 0;", 3, 16);
            Kit.canalRange("canal 7;lock ", " 4;barge 0 1 0 0;", 0, 5);
            Kit.canalRange("canal 7;lock 0 ", ";barge 0 1 0 0;", 1, 9);
            Kit.canalRange("canal 7;bridge ", " 4;barge 0 1 0 0;", 0, 5);
            Kit.canalRange("canal 7;bridge 0 ", ";barge 0 1 0 0;", 1, 9);
            Kit.canalRange("canal 7;barge ", " 1 0 0;", 0, 6);
            Kit.canalRange("canal 7;barge 0 ", " 0 0;", 1, 9);
            Kit.canalRange("canal 7;barge 0 1 ", " 0;", 0, 99);
            Kit.canalRange("canal 7;barge 0 1 0 ", ";", 0, 99);
            Kit.canalRange("canal 7;barge 0 1 0 0;order ", " 1 1 1;", 0, 6);
            Kit.canalRange("canal 7;barge 0 1 0 0;order 0 ", " 1 1;", 1, 4);
            Kit.canalRange("canal 7;barge 0 1 0 0;order 0 1 ", " 1;", 1, 6);
            Kit.canalRange("canal 7;barge 0 1 0 0;order 0 1 1 ", ";", 1, 500);
        });
        Kit.test(3, "numbers of any length", () -> {
            NoodleCanal c = new NoodleCanal();
            Kit.same(Kit.load(c, "canal 00000000000000000000000000000000000000000005;barge 0 1 0 0;"), 1);
            Kit.same(c.placeCount(), 5);
            for (String n : new String[] {"2147483651", "4294967299", "18446744073709551619", "340282366920938463463374607431768211459", "1000000000000000000000000000003"}) {
                Kit.loadFails("canal " + n + ";barge 0 1 0 0;", 2, 6);
            }
        });
    }

    private static void tokens() {
        Kit.test(3, "spaces and line feeds only separate", () -> {
            for (String text : new String[] {
                "canal3;barge0 1 0 0;", "  canal\n3 ; barge 0\n1  0 0 ;\n\n", "\ncanal 3\n;\nbarge\n0\n1\n0\n0\n;", "canal 3;lock1 2;bridge1 2;barge 0 1 0 0;order1 2 3 4;"}) {
                Kit.same(text, Kit.load(new NoodleCanal(), text), 1);
            }
        });
        Kit.test(4, "other bytes are invalid tokens", () -> {
            for (String sign : new String[] {"\t", "\r", "\u0000", "A", "Z", "-", "+", ".", ",", ":", "<", "`", "{", "/", "@", "_", "\u007f", "\u0080", "\u00a0", "\u00e9", "\u00ff"}) {
                Kit.loadFails("canal 3;" + sign + SMALL.substring(8), 1, 8);
                Kit.loadFails("canal" + sign + "3;barge 0 1 0 0;", 1, 5);
                Kit.loadFails(SMALL + sign, 1, 22);
            }
        });
        Kit.test(4, "words and numbers are maximal", () -> {
            Kit.loadFails("canals 3;barge 0 1 0 0;", 1, 0);
            Kit.loadFails("cana l 3;barge 0 1 0 0;", 1, 0);
            Kit.loadFails("cana", 1, 0);
            Kit.loadFails("canal 3x;barge 0 1 0 0;", 1, 7);
            Kit.loadFails("canalz 3;barge 0 1 0 0;", 1, 0);
            Kit.loadFails("acanal 3;barge 0 1 0 0;", 1, 0);
            Kit.loadFails("canal 1 0;barge 0 1 0 0;", 2, 6);
            Kit.loadFails("canal 3 0;barge 0 1 0 0;", 1, 8);
            Kit.loadFails("canal 3;bargebarge 0 1 0 0;", 1, 8);
            Kit.loadFails("canal 3;barge 01000;", 2, 14);
        });
        Kit.test(4, "every letter of a word counts", () -> {
            String text = "canal 3;lock 0 1;bridge 0 1;barge 0 1 0 0;order 0 1 1 1;";
            Kit.same(Kit.load(new NoodleCanal(), text), 1);
            for (int at = 0; at < text.length(); at++) {
                if (text.charAt(at) < 'a') continue;
                int first = at;
                while (first > 0 && text.charAt(first - 1) >= 'a') first--;
                Kit.loadFails(text.substring(0, at) + "x" + text.substring(at + 1), 1, first);
                Kit.loadFails(text.substring(0, at) + "z" + text.substring(at), 1, first);
                Kit.loadFails(text.substring(0, at) + "C" + text.substring(at + 1), 1, at == first ? at : first);
            }
        });
        Kit.test(4, "parentheses have no place in a canal", () -> {
            Kit.loadFails("(canal 3;barge 0 1 0 0;", 1, 0);
            Kit.loadFails("canal 3;(barge 0 1 0 0;)", 1, 8);
            Kit.loadFails(SMALL + ")", 1, 22);
        });
    }

    private static void orderOfParts() {
        Kit.test(3, "locks and bridges in any order", () -> {
            NoodleCanal c = Kit.canal("canal 4;bridge 2 3;lock 1 4;bridge 0 9;lock 2 1;barge 0 1 0 0;");
            Kit.same(c.lockWait(0) * 100 + c.lockWait(1) * 10 + c.lockWait(2), 41);
            Kit.same(c.clearance(0) * 100 + c.clearance(1) * 10 + c.clearance(2), 903);
        });
        Kit.test(4, "what is not allowed at its place", () -> {
            Kit.loadFails("", 1, 0);
            Kit.loadFails("   \n", 1, 4);
            Kit.loadFails("3;", 1, 0);
            Kit.loadFails("canal", 1, 5);
            Kit.loadFails("canal  ", 1, 7);
            Kit.loadFails("canal 3", 1, 7);
            Kit.loadFails("canal 3 ; ", 1, 10);
            Kit.loadFails("canal 3;order 0 1 1 1;", 1, 8);
            Kit.loadFails("canal 3;lock 0 1;", 1, 17);
            Kit.loadFails("canal 3;canal 3;", 1, 8);
            Kit.loadFails("canal 3;;barge 0 1 0 0;", 1, 8);
            Kit.loadFails(SMALL + "lock 0 1;", 1, 22);
            Kit.loadFails(SMALL + "bridge 0 1;", 1, 22);
            Kit.loadFails(SMALL + "order 0 1 1 1;barge 0 1 0 0;", 1, 36);
            Kit.loadFails(SMALL + "order 0 1 1 1;lock 0 1;", 1, 36);
            Kit.loadFails(SMALL + ";", 1, 22);
            Kit.loadFails(SMALL + " sail 0 1;", 1, 23);
            Kit.loadFails("canal 3;barge 0 1 0;", 1, 19);
            Kit.loadFails("canal 3;barge 0 1 0 0 0;", 1, 22);
            Kit.loadFails("canal 3;barge 0 1 0 0", 1, 21);
            Kit.loadFails(SMALL + "order 0 1 1;", 1, 33);
            Kit.loadFails("canal 3;lock 1;barge 0 1 0 0;", 1, 14);
            Kit.loadFails("canal 3;lock 1 1 bridge 1 1;", 1, 17);
        });
    }

    private static void limits() {
        Kit.test(4, "a second lock or bridge of a section", () -> {
            Kit.loadFails("canal 4;lock 2 1;lock 2 1;barge 0 1 0 0;", 3, 22);
            Kit.loadFails("canal 4;lock 2 1;bridge 2 1;lock 0 1;bridge 2 1;", 3, 44);
            Kit.loadFails("canal 4;lock 2 1;lock  02 0;", 3, 23);
            Kit.loadFails("canal 4;lock 2 1;lock 3 1;", 2, 22);
            Kit.loadFails("canal 4;bridge 2 1;bridge 2", 3, 26);
            Kit.loadFails("canal 4;bridge 2 1;bridge x", 1, 26);
        });
        Kit.test(4, "the 6th barge", () -> {
            String five = "canal 3;" + "barge 0 1 0 0;".repeat(5);
            Kit.same(Kit.load(new NoodleCanal(), five + "order 0 1 1 1;"), 5);
            Kit.loadFails(five + "barge 0 1 0 0;", 4, 78);
            Kit.loadFails(five + " barge", 4, 79);
            Kit.loadFails(five + "barges", 1, 78);
            Kit.loadFails(five + "lock 0 1;", 1, 78);
            Kit.loadFails(five + "order 0 1 1 1;barge 0 1 0 0;", 1, 92);
        });
        Kit.test(4, "the 31st order", () -> {
            String thirty = SMALL + "order 0 1 1 9;".repeat(30);
            NoodleCanal c = Kit.canal(thirty);
            Kit.same(c.orderCount(), 30);
            Kit.same(c.deadline(29), 8);
            Kit.loadFails(thirty + "order 0 1 1 9;", 4, 442);
            Kit.loadFails(thirty + "order", 4, 442);
            Kit.loadFails(thirty + "barge", 1, 442);
            Kit.loadFails(thirty + "orders", 1, 442);
        });
        Kit.test(3, "all locks and bridges of the longest canal", () -> {
            StringBuilder s = new StringBuilder("canal 16;");
            for (int i = 0; i < 15; i++) s.append("lock ").append(i).append(" 9;bridge ").append(i).append(" 8;");
            NoodleCanal c = Kit.canal(s + "barge 15 1 0 0;");
            for (int i = 0; i < 15; i++) {
                Kit.same(c.lockWait(i), 9);
                Kit.same(c.clearance(i), 8);
            }
            Kit.loadFails(s + "lock 7 1;", 3, s.length() + 5);
        });
    }

    private static void errors() {
        Kit.test(4, "the first wrong token counts", () -> {
            Kit.loadFails("canal 2;barge 0 99 0 0;", 2, 6);
            Kit.loadFails("canal 3;barge 3 0 100 x", 2, 14);
            Kit.loadFails("canal 3;lock 0 1;lock 0 10;", 3, 22);
        });
        Kit.test(4, "errorCode is that of the latest call", () -> {
            NoodleCanal c = new NoodleCanal();
            Kit.load(c, "canal 17");
            Kit.same(c.errorCode(), 2);
            Kit.script(c, "x");
            Kit.same(c.errorCode(), 1);
            Kit.script(c, "");
            Kit.same(c.errorCode(), 0);
            Kit.load(c, "canal 3;lock 1 1;lock 1 1;");
            Kit.same(c.errorCode(), 3);
            c.passMinutes(1);
            c.saveSnapshot();
            c.undo();
            c.restoreSnapshot();
            c.writeCanal();
            Kit.append(c, "canal 3;");
            Kit.argumentError(() -> c.loadCanal(21));
            Kit.argumentError(() -> c.runScript(-1));
            Kit.same(c.errorCode(), 3);
            c.loadCanal(8);
            Kit.same(c.errorCode(), 1);
            Kit.load(c, SMALL);
            Kit.same(c.errorCode(), 0);
        });
        Kit.test(5, "errorOffset is that of the latest call", () -> {
            NoodleCanal c = new NoodleCanal();
            Kit.same(c.errorOffset(), -1);
            Kit.load(c, "canal 17");
            Kit.same(c.errorOffset(), 6);
            Kit.script(c, "x");
            Kit.same(c.errorOffset(), 0);
            Kit.script(c, "");
            Kit.same(c.errorOffset(), -1);
            Kit.load(c, "canal 3;lock 1 1;lock 1 1;");
            Kit.same(c.errorOffset(), 22);
            c.passMinutes(1);
            c.saveSnapshot();
            c.undo();
            c.restoreSnapshot();
            c.writeCanal();
            Kit.append(c, "canal 3;");
            Kit.argumentError(() -> c.loadCanal(21));
            Kit.argumentError(() -> c.runScript(-1));
            Kit.same(c.errorOffset(), 22);
            c.loadCanal(8);
            Kit.same(c.errorOffset(), 8);
            Kit.load(c, SMALL);
            Kit.same(c.errorOffset(), -1);
        });
        Kit.test(5, "the offset of the first byte, or the length", () -> {
            Kit.loadFails("canal \n 00017;", 2, 8);
            Kit.loadFails("canal 3;  barg 0", 1, 10);
            Kit.loadFails("canal 3; \n ", 1, 11);
            Kit.loadFails(SMALL + "order 0 1 1 1" + " ".repeat(465), 1, 500);
        });
    }
}
