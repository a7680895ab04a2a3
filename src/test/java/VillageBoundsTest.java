/** Boundary cases of a VILLAGE's text (Terms, part 1; promises 4 and 5): clauses, letters, numbers, and the FAULT. */
public final class VillageBoundsTest {
    private static final int NONE = Check.NONE;
    private static final String SIX = "f;f;f;f;f;f";

    public static void main(String[] args) {
        onlyOneRules();
        oneToSixFarms();
        noneToNineWrongs();
        anyOrder();
        lettersOnceOnly();
        lettersOfTheirClause();
        oneOrTwoDigits();
        limeBounds();
        coinsBounds();
        yardsBounds();
        grudgeBounds();
        whoBounds();
        whomBounds();
        heavyBounds();
        whatIsNotTold();
        outOfBoundsAtTheLastDigit();
        thirdDigitItself();
        farmsThatAreNotTold();
        ofOneToItself();
        endsTooEarly();
        atTheLength();
        blanks();
        noOtherBlanks();
        everyByteBehind();
        longestText();
        Check.finish();
    }

    private static void dueFault(String text, int want) {
        Check.dueFault(0, text, want);
    }

    private static void dueFine(String text) {
        Check.dueFault(0, text, NONE);
    }

    private static String times(int count, String clause) {
        return (";" + clause).repeat(count).substring(count == 0 ? 0 : 1);
    }

    private static void onlyOneRules() {
        dueFine("f");
        dueFine("s;f");
        dueFine("f;s");
        dueFault("s;s;f", 2);
        dueFault("s;f;s", 4);
        dueFault("f;sl1; sc2", 7);
        dueFault("s;s", 2);
        dueFault("sl1;f;w;s;x", 8);
    }

    private static void oneToSixFarms() {
        dueFault("s", 1);
        dueFault("sl1c2", 5);
        for (int farms = 1; farms <= 6; farms++) {
            dueFine(times(farms, "f"));
        }
        dueFault(times(7, "f"), 12);
        dueFault(times(6, "f") + " ;  f", 15);
        dueFault(times(6, "fy1g2") + ";s;w;fy0", 40);
        dueFault(times(8, "f"), 12);
    }

    private static void noneToNineWrongs() {
        for (int wrongs = 0; wrongs <= 9; wrongs++) {
            FenceYards x = Check.village("f;f" + ";w".repeat(wrongs));
            Check.due("told wrongs", x.count(1), wrongs);
            Check.due("places", x.all(9), (1 << wrongs) - 1);
        }
        dueFault("f;f" + ";w".repeat(10), 22);
        dueFault("f;f" + ";w".repeat(9) + "; wk9", 23);
        dueFault(times(10, "w"), 18);
        dueFault(times(9, "w"), 17);
    }

    private static void anyOrder() {
        String[] orders = {"s;f;f;w", "s;w;f;f", "f;s;f;w", "f;f;s;w", "f;f;w;s", "f;w;f;s", "w;f;s;f", "w;f;f;s"};
        for (String order : orders) {
            FenceYards x = Check.village(order);
            Check.due(order + " farms", x.count(0), 2);
            Check.due(order + " wrongs", x.count(1), 1);
        }
        FenceYards x = Check.village("wk1;fy4;wk2;sl7;fy5;wk3");
        for (int i = 0; i < 3; i++) {
            Check.due("wrongs in their order", x.wrong(i, 2), i + 1);
        }
        Check.due("farms in their order", 10 * x.farm(0, 0) + x.farm(1, 0), 45);
        Check.dueRow("no wrong in the other places", new int[] {x.wrong(3, 0), x.wrong(8, 0)}, NONE, NONE);
    }

    private static void lettersOnceOnly() {
        dueFault("sl1l1;f", 3);
        dueFault("sc1c1;f", 3);
        dueFault("sl1c1l1;f", 5);
        dueFault("sc1l1c1;f", 5);
        dueFault("fy1y1", 3);
        dueFault("fg1g1", 3);
        dueFault("fy1g1y1", 5);
        dueFault("fg1y1g1", 5);
        dueFault("f;f;wa0a0", 7);
        dueFault("f;f;wv1v1", 7);
        dueFault("f;f;wk1k1", 7);
        dueFault("f;f;wa0v1k1a0", 11);
        dueFault("f;f;wk1v1a0k1", 11);
        dueFault("f;f;wv1a0k1v1", 11);
        dueFault("fy10 y", 5);
        dueFine("fy1;fy1;wk1;wk1");
        dueFine("fg1y1;wk1v1a0;sc1l1;f");
    }

    private static void lettersOfTheirClause() {
        dueFault("sy1", 1);
        dueFault("sg1", 1);
        dueFault("sa1", 1);
        dueFault("sk1", 1);
        dueFault("fl1", 1);
        dueFault("fc1", 1);
        dueFault("fa1", 1);
        dueFault("fv1", 1);
        dueFault("fk1", 1);
        dueFault("wl1", 1);
        dueFault("wc1", 1);
        dueFault("wy1", 1);
        dueFault("wg1", 1);
        dueFault("sl1y1", 3);
        dueFault("fY1", 1);
    }

    private static void oneOrTwoDigits() {
        dueFault("fy", 2);
        dueFault("fyg1", 2);
        dueFault("fy;f", 2);
        dueFine("fy1");
        dueFine("fy01");
        dueFine("fy10");
        dueFault("fy100", 4);
        dueFault("fy001", 4);
        dueFault("f;fy1 0", 6);
        Check.due("a zero ahead", Check.village("fy07").farm(0, 0), 7);
        Check.due("two zeros", Check.village("fg00").farm(0, 1), 0);
    }

    private static void limeBounds() {
        Check.due("l0", Check.village("sl0;f").count(7), 0);
        Check.due("l00", Check.village("sl00;f").count(7), 0);
        Check.due("l1", Check.village("sl1;f").count(7), 1);
        Check.due("l99", Check.village("sl99;f").count(7), 99);
        dueFault("sl100;f", 4);
        dueFault("sl-1;f", 2);
    }

    private static void coinsBounds() {
        Check.due("c0", Check.village("sc0;f").count(8), 0);
        Check.due("c1", Check.village("sc1;f").count(8), 1);
        Check.due("c99", Check.village("sc99;f").count(8), 99);
        dueFault("sc100;f", 4);
        dueFault("sc-1;f", 2);
    }

    private static void yardsBounds() {
        dueFault("fy0", 2);
        dueFault("fy0g1", 2);
        dueFault("fy00", 3);
        Check.due("y1", Check.village("fy1").farm(0, 0), 1);
        Check.due("y01", Check.village("fy01").farm(0, 0), 1);
        Check.due("y39", Check.village("fy39").farm(0, 0), 39);
        Check.due("y40", Check.village("fy40").farm(0, 0), 40);
        dueFault("fy41", 3);
        dueFault("fy50", 3);
        dueFault("fy99;f", 3);
    }

    private static void grudgeBounds() {
        Check.due("g0", Check.village("fg0").farm(0, 1), 0);
        Check.due("g1", Check.village("fg1").farm(0, 1), 1);
        Check.due("g9", Check.village("fg9").farm(0, 1), 9);
        Check.due("g09", Check.village("fg09").farm(0, 1), 9);
        dueFault("fg10", 3);
        dueFault("fg99", 3);
    }

    private static void whoBounds() {
        Check.due("a0", Check.village("f;f;wa0").wrong(0, 0), 0);
        Check.due("a5", Check.village(SIX + ";wa5").wrong(0, 0), 5);
        Check.due("a05", Check.village(SIX + ";wa05").wrong(0, 0), 5);
        dueFault(SIX + ";wa6", 14);
        dueFault(SIX + ";wa06", 15);
        dueFault(SIX + ";wa9v1", 14);
        dueFault(SIX + ";wa10", 15);
    }

    private static void whomBounds() {
        Check.due("v0", Check.village("f;f;wa1v0").wrong(0, 1), 0);
        Check.due("v5", Check.village(SIX + ";wv5").wrong(0, 1), 5);
        dueFault(SIX + ";wv6", 14);
        dueFault(SIX + ";wv06", 15);
        dueFault(SIX + ";wv10", 15);
    }

    private static void heavyBounds() {
        dueFault("f;f;wk0", 6);
        dueFault("f;f;wk00", 7);
        Check.due("k1", Check.village("f;f;wk1").wrong(0, 2), 1);
        Check.due("k9", Check.village("f;f;wk9").wrong(0, 2), 9);
        Check.due("k09", Check.village("f;f;wk09").wrong(0, 2), 9);
        dueFault("f;f;wk10", 7);
    }

    private static void whatIsNotTold() {
        FenceYards x = Check.village("f;f;w");
        Check.due("LIME without s", x.count(7), 40);
        Check.due("COINS without s", x.count(8), 20);
        Check.due("YARDS", x.farm(0, 0), 10);
        Check.due("GRUDGING", x.farm(1, 1), 3);
        Check.due("who", x.wrong(0, 0), 0);
        Check.due("to whom", x.wrong(0, 1), 1);
        Check.due("HEAVY", x.wrong(0, 2), 3);
        FenceYards empty = Check.village("s;f");
        Check.due("LIME of an empty s", empty.count(7), 40);
        Check.due("COINS of an empty s", empty.count(8), 20);
        Check.due("COINS beside l", Check.village("sl3;f").count(8), 20);
        Check.due("LIME beside c", Check.village("sc3;f").count(7), 40);
    }

    /** Also where the text ends there or goes on with what would be wrong by itself. */
    private static void outOfBoundsAtTheLastDigit() {
        dueFault("fy0", 2);
        dueFault("fy0;", 2);
        dueFault("fy0 ", 2);
        dueFault("fy0x", 2);
        dueFault("fy0 5", 2);
        dueFault("fy41x", 3);
        dueFault("fy41 1", 3);
        dueFault("fy41g99", 3);
        dueFault("fg10y0", 3);
        dueFault("wk0;x", 2);
        dueFault("wa6v6", 2);
        dueFault("wa 6", 3);
        dueFault("wa66;", 3);
        dueFault("s;f;s;fy0", 4);
    }

    /** Whatever stands ahead of it. */
    private static void thirdDigitItself() {
        dueFault("fy400", 4);
        dueFault("fy000", 4);
        dueFault("fy410", 4);
        dueFault("fy991", 4);
        dueFault("fy0000", 4);
        dueFault("fg100", 4);
        dueFault("fg000", 4);
        dueFault("sl990;f", 4);
        dueFault("sc000;f", 4);
        dueFault("wa000", 4);
        dueFault("wa666", 4);
        dueFault("wv 555", 5);
        dueFault("wk123", 4);
        dueFault("wk001;f;f", 4);
    }

    private static void farmsThatAreNotTold() {
        dueFault("f;w", 3);
        dueFault("f;f;wa2", 7);
        dueFault("f;f;wv2", 7);
        dueFine("f;f;wv1");
        dueFine("f;f;f;wa2;wv2");
        dueFault("f;f;f;f;f;wa5", 13);
        dueFine(SIX + ";wa5");
        dueFault("f;f;f;f;f;wa0v5k9", 17);
        dueFine(SIX + ";wa0v5k9");
        dueFine("wa5;" + SIX);
        dueFault("wa2;f;f;w", 9);
        dueFault("w;f;wa0", 7);
    }

    private static void ofOneToItself() {
        dueFault("f;f;wv0", 7);
        dueFault("f;f;wa1", 7);
        dueFault("f;f;wa1v1", 9);
        dueFault("f;f;wa1v01", 10);
        dueFine("f;f;wa1v0");
        dueFault(SIX + ";wa5v5;w", 19);
        dueFine(SIX + ";wa5v4;w");
        dueFault("f;f;w;w;wa1;w", 13);
    }

    private static void endsTooEarly() {
        String[] texts = {"", "s", "s;", "sl", "sl5", "sl5;", "f;", "fy", "fyy", "f;fg", "w", "w;", "f;f;wa", "f;f;w;"};
        for (String text : texts) {
            dueFault(text, text.equals("fyy") ? 2 : text.length());
        }
    }

    /** The length counts blanks at the end, and what is wrong within comes first. */
    private static void atTheLength() {
        dueFault(" ", 1);
        dueFault("s  ", 3);
        dueFault("f;f;wv0  ", 9);
        dueFault("f; ", 3);
        dueFault("fy ", 3);
        dueFault("f;f;wv0;f;fy41", 13);
        dueFault("f;f;wv0;w;", 10);
        dueFault("wv5;f;;", 6);
        dueFault("f" + " ".repeat(239), NONE);
        dueFault("s" + " ".repeat(239), 240);
    }

    private static void blanks() {
        dueFine("  s  l  9  c  8  ;  f  y  7  g  6  ;  f  ;  w  a  1  v  0  k  5  ");
        FenceYards x = Check.village("  s  l  9  c  8  ;  f  y  7  g  6  ;  f  ;  w  a  1  v  0  k  5  ");
        Check.dueRow("as without blanks", new int[] {x.count(7), x.count(8), x.farm(0, 0), x.farm(0, 1), x.wrong(0, 2)},
            9, 8, 7, 6, 5);
        dueFault("sl1 0;f", 4);
        dueFault("fy1 0", 4);
        dueFault("fg 1 0", 5);
        dueFault("f;f;wk 1 k 1", 9);
    }

    private static void noOtherBlanks() {
        for (int sign : new int[] {9, 10, 11, 12, 13, 31, 33, 160, 255}) {
            dueFault((char) sign + "f", 0);
            dueFault("f" + (char) sign, 1);
            dueFault("f;" + (char) sign + "f", 2);
            dueFault("fy" + (char) sign + "1", 2);
        }
    }

    /** Of all bytes only these go on behind a text that is fine up to there. */
    private static void dueNext(String head, String goesOn) {
        for (int sign = 1; sign < 256; sign++) {
            int fault = Check.faultOf(0, head + (char) sign);
            boolean wrong = fault == head.length();
            Check.due("\"" + head + "\" goes on with " + sign, !wrong, goesOn.indexOf(sign) >= 0);
        }
    }

    private static void everyByteBehind() {
        dueNext("", "sfw ");
        dueNext("s", "lc; ");
        dueNext("f", "yg; ");
        dueNext("w", "avk; ");
        dueNext("f;", "sfw ");
        dueNext("s;", "fw ");
        dueNext(SIX + ";", "sw ");
        dueNext("f;f" + ";w".repeat(9) + ";", "sf ");
        dueNext(SIX + ";s" + ";w".repeat(9) + ";", " ");
        dueNext("sl", "0123456789 ");
        dueNext("fg", "0123456789 ");
        dueNext("fy", "123456789 ");
        dueNext("wa", "012345 ");
        dueNext("wv", "012345 ");
        dueNext("wk", "123456789 ");
        dueNext("fy1", "0123456789g; ");
        dueNext("fy4", "0g; ");
        dueNext("fy5", "g; ");
        dueNext("fy40", "g; ");
        dueNext("fg0", "0123456789y; ");
        dueNext("fg1", "y; ");
        dueNext("sl9", "0123456789c; ");
        dueNext("sl1c2", "0123456789; ");
        dueNext("sl1c02", "; ");
        dueNext("fg1y02", "; ");
        dueNext("wk1", "av; ");
        dueNext("wk1a0", "012345v; ");
        dueNext("wk1a0v1", "; ");
        dueNext("wk1a0v01", "; ");
        dueNext("f ", "yg; ");
        dueNext("fy1 ", "g; ");
    }

    private static void longestText() {
        StringBuilder text = new StringBuilder("sl99c99");
        text.append(";fy40g9".repeat(6)).append(";wa05v04k09".repeat(9));
        FenceYards x = Check.village(text.toString());
        Check.due("farms of the fullest village", x.count(0), 6);
        Check.due("wrongs of the fullest village", x.count(1), 9);
        for (int farm = 0; farm < 6; farm++) {
            Check.due("its yards", x.farm(farm, 4), 40);
        }
        for (int place = 0; place < 9; place++) {
            Check.dueRow("its wrong " + place, new int[] {x.wrong(place, 0), x.wrong(place, 1), x.wrong(place, 2)},
                5, 4, 9);
        }
    }
}
