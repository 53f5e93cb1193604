/** Promises 17 to 19: what comes to the text, and what the text tells. */
final class TextsBoundaries extends Boundaries {
    private static final Call READ = (bench, v) -> bench.read();
    private static final Call CLEAR = (bench, v) -> bench.clear();
    private static final String LONGEST = "c-40,-40w400o900e90;";
    private static final String SHORTEST = "p0,0w0;";

    TextsBoundaries(Checks checks) {
        super(checks);
    }

    private static LensBench withText(String text) {
        LensBench bench = new LensBench();
        put(bench, text);
        return bench;
    }

    private static LensBench richWithText(String text) {
        LensBench bench = rich();
        bench.clear();
        put(bench, text);
        return bench;
    }

    private void dueRead(String text, int want) {
        due("read() of " + text, withText(text).read(), want);
    }

    private void dueFault(String text, int place) {
        dueRead(text, -10 - place);
    }

    // ---- promise 17

    void promise17Ends() {
        Range n = new Range("n", 1, 8, 3);
        ends(Boundaries::plain, (bench, v) -> bench.type(0x7070707070707070L, v[0]), v -> v[0], BAD, n);
        ends(Boundaries::rich, (bench, v) -> bench.type(Long.MIN_VALUE, v[0]), v -> 18 + v[0], BAD, n);
    }

    void promise17BadAheadOfFull() {
        ends(Boundaries::full, (bench, v) -> bench.type(-1, v[0]), v -> FULL, BAD, new Range("n", 1, 8, 1));
    }

    void promise17TheLastThatHasRoom() {
        for (int n = 1; n <= 8; n++) {
            due(n + " bytes to 200", withText("p".repeat(200 - n)).type(0, n), 200);
            due(n + " bytes to 201", withText("p".repeat(201 - n)).type(0, n), FULL);
        }
        due("8 bytes to 208", withText("p".repeat(200)).type(0, 8), FULL);
    }

    void promise17FullChangesNothing() {
        for (int n = 1; n <= 8; n++) {
            String text = "p1,2w3;" + "s".repeat(194 - n);
            due("bytes ahead", text.length(), 201 - n);
            refused(() -> richWithText(text), "type", (bench, v) -> bench.type('x', v[0]), FULL, n);
        }
        LensBench bench = withText("p".repeat(196));
        due("5 bytes to 201", bench.type(0, 5), FULL);
        due("4 bytes to 200 after that", bench.type(0, 4), 200);
    }

    void promise17TheLowestBytesTheHighestFirst() {
        long[] tails = {0x3BL, 0x333BL, 0x77333BL, 0x3277333BL, 0x2C3277333BL, 0x312C3277333BL, 0x70312C3277333BL};
        String text = "p1,2w3;";
        for (int n = 1; n <= 7; n++) {
            for (long above : new long[] {0, -1, Long.MIN_VALUE, 0x7878787878787878L}) {
                LensBench bench = withText(text.substring(0, 7 - n));
                due("type", bench.type(tails[n - 1] | above << 8 * n, n), 7);
                due("read() of " + n + " typed last", bench.read(), 1);
                due("weights", bench.count(5), 3);
            }
        }
        LensBench eight = plain();
        due("eight bytes", eight.type(0x7031322C33773435L, 8), 8);
        due("and one", eight.type(';' | 'x' << 8, 1), 9);
        due("read() of p12,3w45;", eight.read(), 1);
        due("weights", eight.count(5), 45);
    }

    void promise17EachByteCounts() {
        for (int value = 0; value <= 255; value++) {
            due("a byte of " + value, withText("p").type(value, 1), 2);
            due("a byte of " + value + " and more above it", withText("p").type(value - 256, 1), 2);
        }
    }

    // ---- promise 18

    void promise18Empty() {
        refused(Boundaries::plain, "clear", CLEAR, 0);
        LensBench bench = rich();
        due("of 18", bench.clear(), 18);
        due("of none", bench.clear(), 0);
        due("bytes", bench.count(4), 0);
        due("read() of none", bench.read(), 0);
    }

    void promise18Full() {
        LensBench bench = full();
        due("of 200", bench.clear(), 200);
        due("room again", bench.type(0, 8), 8);
        due("of 8", bench.clear(), 8);
        due("bodies", bench.count(0), 8);
    }

    void promise18WhatWasThereIsGone() {
        LensBench bench = withText("p1,1w");
        bench.clear();
        put(bench, "s2,2w4o5;");
        due("read()", bench.read(), 1);
        due("KIND", bench.set(0, KIND, POINT), SOFT);
        due("WEIGHT", bench.set(0, WEIGHT, 0), 4);
    }

    // ---- promise 19

    /** At each place of the text the bytes that can stand there; # stands for 0 to 9, + for 1 to 9. */
    private void standing(String text, String... taken) {
        due("places of " + text, taken.length, text.length());
        for (int at = 0; at < text.length() && at < taken.length; at++) {
            String signs = taken[at].replace("#", "0123456789").replace("+", "123456789");
            for (char sign = 0; sign <= 255; sign++) {
                String begun = text.substring(0, at) + sign;
                boolean isEnd = sign == ';' && signs.indexOf(';') >= 0;
                if (signs.indexOf(sign) < 0) {
                    dueFault(begun, at);
                } else {
                    dueRead(begun, isEnd ? 1 : -10 - at - 1);
                }
            }
        }
    }

    void promise19WhatCanStandWhere() {
        standing("c-12,34w56o78e9;",
                "psc", "-#", "+", "#,", ",", "-#", "#w", "w", "#", "#o", "o", "#", "#e", "#e", "#", "0;");
        standing("p40,-40w400;", "psc", "-#", "0,", ",", "-#", "+", "0w", "w", "#", "#;", "0;", ";");
        standing("s0,0w0o900;", "psc", "-#", ",", "-#", "w", "#", "o", "#", "#;", "0;", ";");
        standing("c5,-9w39o89e8;", "psc", "-#", ",", "-#", "+", "w", "#", "#o", "#o", "#", "#e", "#e", "#", "#;");
        standing("c-39,3w401", "psc", "-#", "+", "#,", ",", "-#", "#w", "#", "#o", "0o");
        standing("s-5,0w41o91", "psc", "-#", "+", ",", "-#", "w", "#", "#o", "o", "#", "#;");
        standing("c0,0w0o0e0;", "psc", "-#", ",", "-#", "w", "#", "o", "#", "e", "#", ";");
    }

    void promise19EndsTooEarly() {
        String[] texts = {LONGEST, SHORTEST, "s1,-2w34o567;", "c0,0w0o0e0;"};
        for (String text : texts) {
            for (int length = 1; length < text.length(); length++) {
                dueFault(text.substring(0, length), length);
                dueFault(SHORTEST + text.substring(0, length), 7 + length);
            }
            dueRead(text, 1);
        }
        dueFault(LONGEST.repeat(7) + LONGEST.substring(0, 19), 159);
    }

    void promise19NoText() {
        dueRead("", 0);
        LensBench bench = rich();
        bench.clear();
        due("read() of none", bench.read(), 0);
        due("bodies", bench.count(0), 0);
        due("drop()", bench.drop(), STATE);
        due("PIXELS of PARITY 1", bench.rings(2), 2401);
        due("again", bench.read(), 0);
    }

    void promise19EightItemsAndNoNinth() {
        for (int items = 1; items <= 8; items++) {
            dueRead(SHORTEST.repeat(items), items);
            dueRead(LONGEST.repeat(items), items);
        }
        for (char sign = 0; sign <= 255; sign++) {
            dueFault(SHORTEST.repeat(8) + sign, 56);
            dueFault(LONGEST.repeat(8) + sign, 160);
        }
        dueFault(SHORTEST.repeat(9), 56);
        dueFault(SHORTEST.repeat(8) + LONGEST, 56);
        dueFault(LONGEST.repeat(10), 160);
        // a fault ahead of the ninth comes first
        dueFault(SHORTEST.repeat(7) + "p0,0w;" + SHORTEST, 54);
    }

    void promise19EndsOfNumbers() {
        String[] heads = {"p", "p0,", "p0,0w", "s0,0w0o", "c0,0w0o0e"};
        String[] tails = {",0w0;", "w0;", ";", ";", ";"};
        int[] most = {40, 40, 400, 900, 90};
        // 4294967297 is 1 where an int wraps around
        int[] faultsOfWrapped = {1, 1, 2, 3, 2};
        for (int i = 0; i < heads.length; i++) {
            int at = heads[i].length();
            dueRead(heads[i] + "0" + tails[i], 1);
            dueRead(heads[i] + most[i] + tails[i], 1);
            dueFault(heads[i] + (most[i] + 1) + tails[i], at + String.valueOf(most[i]).length() - 1);
            dueFault(heads[i] + most[i] + "0" + tails[i], at + String.valueOf(most[i]).length());
            dueFault(heads[i] + "00" + tails[i], at + 1);
            dueFault(heads[i] + "01" + tails[i], at + 1);
            dueFault(heads[i] + tails[i], at);
            dueFault(heads[i] + "-0" + tails[i], i < 2 ? at + 1 : at);
            dueFault(heads[i] + "-01" + tails[i], i < 2 ? at + 1 : at);
            dueFault(heads[i] + "--1" + tails[i], i < 2 ? at + 1 : at);
            dueFault(heads[i] + "+1" + tails[i], at);
            dueFault(heads[i] + " 1" + tails[i], at);
            dueFault(heads[i] + "1 " + tails[i], at + 1);
            dueFault(heads[i] + "4294967297" + tails[i], at + faultsOfWrapped[i]);
        }
    }

    void promise19EndsOfPlaces() {
        dueRead("p-40,-40w0;", 1);
        dueRead("p-1,-1w0;", 1);
        dueFault("p-41,0w0;", 3);
        dueFault("p0,-41w0;", 5);
        dueFault("p-50,0w0;", 3);
        dueFault("p0,-50w0;", 5);
        dueFault("p-400,0w0;", 4);
        dueFault("p0,-", 4);
    }

    void promise19EachKindsParts() {
        dueFault("p1,2w3o4;", 6);
        dueFault("p1,2w3e4;", 6);
        dueFault("s1,2w3;", 6);
        dueFault("s1,2w3e4;", 6);
        dueFault("s1,2w3o4e5;", 8);
        dueFault("c1,2w3;", 6);
        dueFault("c1,2w3o4;", 8);
        dueFault("c1,2w3e4;", 6);
        dueFault("c1,2w3o4e5e6;", 10);
    }

    void promise19EndsStandAsTold() {
        int[][] told = {{CUT, -40, -40, 400, 900, 90}, {CUT, 40, 40, 0, 0, 0}, {POINT, -1, 1, 399, 0, 90},
            {SOFT, 0, 10, 100, 899, 90}, {CUT, 39, -39, 10, 90, 89}};
        LensBench bench = withText("c-40,-40w400o900e90;c40,40w0o0e0;p-1,1w399;s0,10w100o899;c39,-39w10o90e89;");
        due("read()", bench.read(), 5);
        for (int body = 0; body < told.length; body++) {
            for (int what = KIND; what <= EDGE; what++) {
                due("feature " + what + " of " + body, bench.set(body, what, LEAST_OF[what]), told[body][what]);
            }
        }
        due("a sixth", bench.set(5, KIND, 0), NO);
    }

    void promise19ToldAnewNotBeside() {
        LensBench bench = full();
        bench.clear();
        put(bench, "p1,2w3;s-4,5w60o7;");
        due("read()", bench.read(), 2);
        due("bodies", bench.count(0), 2);
        due("weights", bench.count(5), 63);
        due("CORE where another body was", bench.set(0, CORE, 0), 0);
        due("EDGE where another body was", bench.set(0, EDGE, 0), 90);
        due("EDGE of a SOFT one", bench.set(1, EDGE, 0), 90);
        due("from without the former", bench.from(1, 3, 1), 48 - 48 - bench.bend(SOFT, 1, 1, 3, 1));
        due("a body after them", bench.body(CUT, 0, 0, 1), 2);
        due("its CORE at first", bench.set(2, CORE, 0), 0);
        due("its EDGE at first", bench.set(2, EDGE, 0), 90);
    }

    void promise19ToldAnewAgainAndAgain() {
        String[] texts = {"c1,2w3o4e5;", "c6,7w8o9e10;", "p-1,-2w3;", "s-4,-5w6o7;", "p0,0w0;", "c0,0w0o0e0;", "p1,1w1;"};
        int[][] told = {{CUT, 1, 2, 3, 4, 5}, {CUT, 6, 7, 8, 9, 10}, {POINT, -1, -2, 3, 0, 90}, {SOFT, -4, -5, 6, 7, 90},
            {POINT, 0, 0, 0, 0, 90}, {CUT, 0, 0, 0, 0, 0}, {POINT, 1, 1, 1, 0, 90}};
        LensBench bench = full();
        bench.clear();
        for (int i = 0; i < texts.length; i++) {
            put(bench, texts[i]);
            due("read() of " + texts[i], bench.read(), 1);
            for (int what = KIND; what <= EDGE; what++) {
                due("feature " + what, bench.set(0, what, told[i][what]), told[i][what]);
            }
        }
    }

    void promise19SeenAtOnce() {
        LensBench bench = with(POINT, 0);
        due("PIXELS of PARITY 1", bench.rings(2), 2401);
        put(bench, "p0,0w60;");
        bench.read();
        due("PIXELS of PARITY 1 by the text", bench.rings(2), 2213);
        LensBench tried = eightFits();
        due("LEAST", tried.models(1, 15, 1), 8);
        put(tried, "p0,0w0;p0,0w3;");
        tried.read();
        due("LEAST by the text", tried.models(1, 15, 1), 5);
    }

    /** What a longer text left behind is no part of a shorter one. */
    void promise19NothingOfAFormerText() {
        for (int length = 0; length < LONGEST.length(); length++) {
            LensBench bench = withText(LONGEST);
            bench.clear();
            put(bench, LONGEST.substring(0, length));
            due("read() of " + length + " bytes", bench.read(), length == 0 ? 0 : -10 - length);
        }
        LensBench bench = withText(SHORTEST.repeat(8) + "x");
        due("a ninth", bench.read(), -66);
        bench.clear();
        put(bench, SHORTEST.repeat(8));
        due("eight", bench.read(), 8);
    }

    void promise19TheRestStays() {
        LensBench bench = rich();
        due("read()", bench.read(), 2);
        int[] counts = {2, 2, 3, 16, 0, 63};
        for (int what = 0; what <= 5; what++) {
            due("count(" + what + ")", bench.count(what), counts[what]);
        }
        due("trace()", bench.trace(), 111);
        due("g", bench.field(0, 0), 1);
        due("h", bench.field(1, 0), -2);
        due("TOLERANCE", bench.tolerance(0, 0), 60);
        due("NOISE", bench.tolerance(1, 0), 7);
    }

    void promise19EmptyAfterItIsRead() {
        LensBench bench = rich();
        bench.read();
        due("bytes", bench.count(4), 0);
        due("clear()", bench.clear(), 0);
        due("type()", bench.type('p', 1), 1);
        due("read() of p", bench.read(), -11);
    }

    void promise19FaultChangesNothing() {
        String[] faulty = {"x", "p1,2w3;s-4,5w60o7;x", "p1,2w3;s-4,5w60o7", "p1,2w401;", SHORTEST.repeat(9), "p1,2w3;c0,0w0o0e91;"};
        int[] faults = {0, 18, 17, 7, 56, 17};
        for (int i = 0; i < faulty.length; i++) {
            String text = faulty[i];
            refused(() -> richWithText(text), "read of " + text, READ, -10 - faults[i]);
        }
        refused(Boundaries::full, "read of 200", READ, -10 - 18);
        LensBench bench = richWithText("p1,2w3;x");
        due("a fault", bench.read(), -17);
        due("the same again", bench.read(), -17);
        due("bytes", bench.count(4), 8);
        bench.clear();
        put(bench, "p1,2w3;");
        due("without it", bench.read(), 1);
    }

    void promise19FaultAfterAnotherReadChangesNothing() {
        String[] faulty = {"x", "c9,9w9o9e9;c9,9w9o9e9;c9,9w9o9e9;x", "c9,9w9o9e9", "p9,9w401"};
        int[] faults = {0, 33, 10, 7};
        for (int i = 0; i < faulty.length; i++) {
            String text = faulty[i];
            Scene scene = () -> {
                LensBench bench = rich();
                bench.read();
                put(bench, text);
                return bench;
            };
            refused(scene, "read of " + text, READ, -10 - faults[i]);
            LensBench bench = scene.made();
            bench.read();
            bench.clear();
            due("WEIGHT", bench.set(0, WEIGHT, 0), 3);
            due("CORE", bench.set(1, CORE, 0), 7);
        }
    }

    void promise19FaultsOf200Bytes() {
        dueFault("x".repeat(200), 0);
        dueFault("p".repeat(200), 1);
        dueFault(LONGEST.repeat(7) + "c-40,-40w400o900e90" + "0".repeat(41), 159);
    }
}
