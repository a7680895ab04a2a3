/** Promises 1 to 5 and 8: a new object, the tape, and what is a VILLAGE, a LAW, a SPRING. */
public final class TextsTest {
    private static final int NONE = Check.NONE;

    public static void main(String[] args) {
        newObject();
        feeding();
        ending();
        faultsOfVillages();
        lettersOfVillages();
        faultsOfLaws();
        depthOfLaws();
        faultsOfSprings();
        telling();
        newVillage();
        defaults();
        choosingLaws();
        Check.finish();
    }

    private static void newObject() {
        FenceYards x = new FenceYards();
        int[] wants = {0, 0, 0, 0, 0, NONE, 0, 0, 0, 0, 0, 4, 0, 0, 0};
        for (int what = 0; what < wants.length; what++) {
            Check.due("new count(" + what + ")", x.count(what), wants[what]);
        }
        Check.dueNoFarm(x, 0, 0);
        Check.due("new all(9)", x.all(9), NONE);
        Check.due("new ring()", x.ring(), NONE);
        Check.due("new back()", x.back(), NONE);
        Check.due("new image()", x.image(), NONE);
    }

    private static void feeding() {
        FenceYards x = new FenceYards();
        Check.due("feed highest first", x.feed(('n' << 24) | (';' << 16) | ('f' << 8) | '3', 0, 0, 0, 0), 4);
        Check.due("n;f3", x.fault(2), NONE);
        Check.due("feed leaves out zeros", x.feed(0, ';', 0, 'n' << 16, 0), 6);
        Check.due("n;f3;n", x.fault(2), NONE);
        Check.due("feed nothing", x.feed(0, 0, 0, 0, 0), 6);
        Check.due("feed high bytes", x.feed(-1, -1, -1, -1, -1), 26);
        Check.due("fault at a high byte", x.fault(2), 6);
        for (int i = 0; i < 10; i++) {
            x.feed(-1, -1, -1, -1, -1);
        }
        Check.due("226 bytes", x.count(4), 226);
        Check.due("feed beyond 240", x.feed(-1, -1, -1, -1, -1), NONE);
        Check.due("feed 15 bytes beyond 240", x.feed(-1, -1, -1, 0x01010100, 0), NONE);
        Check.due("refused feed", x.count(4), 226);
        Check.due("feed up to 240", x.feed(-1, -1, -1, 0x01000001, 0), 240);
        Check.due("feed nothing to a full tape", x.feed(0, 0, 0, 0, 0), 240);
        Check.due("feed one to a full tape", x.feed(0, 0, 0, 0, 1), NONE);
    }

    private static void ending() {
        FenceYards x = new FenceYards();
        Check.due("end(1) of an empty tape", x.end(1), false);
        Check.due("end(0) of an empty tape", x.end(0), true);
        Check.tape(x, "f;fy3");
        Check.due("end(6)", x.end(6), false);
        Check.due("end(-1)", x.end(-1), false);
        Check.due("end of the extremes", x.end(Integer.MIN_VALUE) || x.end(Integer.MAX_VALUE), false);
        Check.due("end(5)", x.end(5), true);
        Check.due("end(3)", x.end(3), true);
        Check.due("the first bytes stay", x.text(0), 2);
    }

    private static void faultsOfVillages() {
        Check.dueFault(0, "", 0);
        Check.dueFault(0, "   ", 3);
        Check.dueFault(0, "f", NONE);
        Check.dueFault(0, "F", 0);
        Check.dueFault(0, "s", 1);
        Check.dueFault(0, "s ;w", 4);
        Check.dueFault(0, "f;sl", 4);
        Check.dueFault(0, "f;fy", 4);
        Check.dueFault(0, "f;f;w;wk ", 9);
        Check.dueFault(0, "s;f;w", 5);
        Check.dueFault(0, "w;f;f;s", NONE);
        Check.dueFault(0, "wa1v0;f;f", NONE);
        Check.dueFault(0, "f;f;wv0", 7);
        Check.dueFault(0, "f;f;wa1v1", 9);
        Check.dueFault(0, "f;f;wa2", 7);
        Check.dueFault(0, "f;f;wv2  ", 9);
        Check.dueFault(0, "f;f;wv2;x", 8);
        Check.dueFault(0, "f;f;f;f;f;f;wa5v4k9", NONE);
        Check.dueFault(0, ";f", 0);
        Check.dueFault(0, "f;;f", 2);
        Check.dueFault(0, "f ; ", 4);
        Check.dueFault(0, "f f", 2);
        Check.dueFault(0, "ff", 1);
        Check.dueFault(0, "f;" + (char) 233, 2);
        Check.dueFault(0, "s;f;s", 4);
        Check.dueFault(0, "f;f;f;f;f;f;w;f", 14);
        Check.dueFault(0, "f;f;w;w;w;w;w;w;w;w;w", NONE);
        Check.dueFault(0, "f;f;w;w;w;w;w;w;w;w;w;w", 22);
        Check.dueFault(0, "w;w;w;w;w;w;w;w;w;w1", 18);
        Check.dueFault(0, " f y 7 g 2 ; w a 1 k 5 ; f ", 27);
        Check.dueFault(0, " f y 7 g 2 ; w a 1 v 0 ; f ", NONE);
    }

    private static void lettersOfVillages() {
        Check.dueFault(0, "sl0c99;f", NONE);
        Check.dueFault(0, "sl99c00;fy40g9", NONE);
        Check.dueFault(0, "fy1g0", NONE);
        Check.dueFault(0, "fy05", NONE);
        Check.dueFault(0, "fy00", 3);
        Check.dueFault(0, "fy0g1", 2);
        Check.dueFault(0, "fy0 5", 2);
        Check.dueFault(0, "fy1 5", 4);
        Check.dueFault(0, "fy991", 4);
        Check.dueFault(0, "fy99", 3);
        Check.dueFault(0, "fy123", 4);
        Check.dueFault(0, "fy1234", 4);
        Check.dueFault(0, "fy005", 4);
        Check.dueFault(0, "fy41", 3);
        Check.dueFault(0, "fy40", NONE);
        Check.dueFault(0, "sl100;f", 4);
        Check.dueFault(0, "fg10", 3);
        Check.dueFault(0, "wa6;f", 2);
        Check.dueFault(0, "fg09", NONE);
        Check.dueFault(0, "fg100", 4);
        Check.dueFault(0, "wk10;f;f", 3);
        Check.dueFault(0, "wk00;f;f", 3);
        Check.dueFault(0, "wa05;f", 6);
        Check.dueFault(0, "wv6;f", 2);
        Check.dueFault(0, "wv06;f", 3);
        Check.dueFault(0, "wk1k2", 3);
        Check.dueFault(0, "wa0v1k2a0", 7);
        Check.dueFault(0, "sl1l1;f", 3);
        Check.dueFault(0, "fy", 2);
        Check.dueFault(0, "fy ", 3);
        Check.dueFault(0, "fyg1", 2);
        Check.dueFault(0, "fy-1", 2);
        Check.dueFault(0, "sy1", 1);
        Check.dueFault(0, "fl1", 1);
        Check.dueFault(0, "wy1", 1);
        Check.dueFault(0, "f1", 1);
        Check.dueFault(0, "fg1y2g3", 5);
    }

    private static void faultsOfLaws() {
        Check.dueFault(1, "", 0);
        Check.dueFault(1, "y", 1);
        Check.dueFault(1, "y:", 2);
        Check.dueFault(1, "x:1", 0);
        Check.dueFault(1, "yk", 1);
        Check.dueFault(1, " y : k * 2 + [ g - 1 ] / 3 ; y : 7 ", NONE);
        Check.dueFault(1, "y:k>1?g", NONE);
        Check.dueFault(1, "y:k>1?", 6);
        Check.dueFault(1, "y:k>1", 5);
        Check.dueFault(1, "y:k>1;y:1", 5);
        Check.dueFault(1, "y:k?1", 3);
        Check.dueFault(1, "y:k&g", 3);
        Check.dueFault(1, "y:k>1>2?1", 5);
        Check.dueFault(1, "y:k>1?g>1", 7);
        Check.dueFault(1, "y:k>1?g?1", 7);
        Check.dueFault(1, "y:k=1|g<2&!n>3?1", NONE);
        Check.dueFault(1, "y:(k=1|g<2)&b>l?d", NONE);
        Check.dueFault(1, "y:(k=1)", 7);
        Check.dueFault(1, "y:(k=1);", 7);
        Check.dueFault(1, "y:(k)", 4);
        Check.dueFault(1, "y:(k+1", 6);
        Check.dueFault(1, "y:[k=1]", 4);
        Check.dueFault(1, "y:[k]=1?1", NONE);
        Check.dueFault(1, "y:[k]>[g]&(n=1)?1", NONE);
        Check.dueFault(1, "y:k=(1", 4);
        Check.dueFault(1, "y:k+!", 4);
        Check.dueFault(1, "y:!k?", 4);
        Check.dueFault(1, "y:!k=1", 6);
        Check.dueFault(1, "y:k]", 3);
        Check.dueFault(1, "y:k)", 3);
        Check.dueFault(1, "y:[k)", 4);
        Check.dueFault(1, "y:-1", 2);
        Check.dueFault(1, "y:k+-1", 4);
        Check.dueFault(1, "y:kg", 3);
        Check.dueFault(1, "y:1 2", 4);
        Check.dueFault(1, "y:1234", NONE);
        Check.dueFault(1, "y:00000", 6);
        Check.dueFault(1, "y:12345?", 6);
        Check.dueFault(1, "y:k;", 4);
        Check.dueFault(1, "y:k;;", 4);
        Check.dueFault(1, "y:k;y:1;y:2;y:3;y:4;y:5;y:6;y:7;y:8;y:9", NONE);
        Check.dueFault(1, "y:a", 2);
    }

    private static void depthOfLaws() {
        Check.dueFault(1, "y:[[[[[[1]]]]]]", NONE);
        Check.dueFault(1, "y:[[[[[[[1]]]]]]]", 8);
        Check.dueFault(1, "y:((((((k=1))))))?1", NONE);
        Check.dueFault(1, "y:(((((((k=1)))))))?1", 8);
        Check.dueFault(1, "y:!!!!!!k=1?1", NONE);
        Check.dueFault(1, "y:!(!([[k]]=1))?1", NONE);
        Check.dueFault(1, "y:!(!([[[k]]]=1))?1", 8);
        Check.dueFault(1, "y:!!!!!!k=[1]?1", 10);
        Check.dueFault(1, "y:!!!!!!k=1&!!!!!!k=1?[[[[[[k]]]]]]", NONE);
        Check.dueFault(1, "y:[[[[[[1]]]]]]+[[[[[[1]]]]]]*[[[[[[1]]]]]]", NONE);
        Check.dueFault(1, "y:[[[[[[1]]]]]]=[[[[[[1]]]]]]&((((((k=1))))))?1", NONE);
        Check.dueFault(1, "y:(k=1&[[[[[1]]]]]=1)?1", NONE);
        Check.dueFault(1, "y:(k=1&[[[[[[1]]]]]]=1)?1", 12);
    }

    private static void faultsOfSprings() {
        Check.dueFault(2, "", 0);
        Check.dueFault(2, " ", 1);
        Check.dueFault(2, "f", 1);
        Check.dueFault(2, "f0", NONE);
        Check.dueFault(2, "f12", 2);
        Check.dueFault(2, "f 1 2", 4);
        Check.dueFault(2, "p1 2", NONE);
        Check.dueFault(2, "p 9 0", NONE);
        Check.dueFault(2, "p123", 3);
        Check.dueFault(2, "px", 1);
        Check.dueFault(2, "p1x", 2);
        Check.dueFault(2, "i9;n", NONE);
        Check.dueFault(2, "i", 1);
        Check.dueFault(2, "n;", 2);
        Check.dueFault(2, ";n", 0);
        Check.dueFault(2, "n;;n", 2);
        Check.dueFault(2, "N", 0);
        Check.dueFault(2, "n;n;n;n;n;n;n;n;n;n;n;n;n;n;n;n", NONE);
        Check.dueFault(2, "n;n;n;n;n;n;n;n;n;n;n;n;n;n;n;n ;", 32);
        Check.dueFault(2, "n;n;n;n;n;n;n;n;n;n;n;n;n;n;n;nx", 31);
    }

    private static void telling() {
        FenceYards x = new FenceYards();
        Check.due("fault(-1)", x.fault(-1), -2);
        Check.due("fault(3)", x.fault(3), -2);
        Check.due("text(-1)", x.text(-1), NONE);
        Check.tape(x, "f;fx");
        Check.due("text of a fault", x.text(0), NONE);
        Check.due("a refused text leaves the tape", x.count(4), 4);
        Check.due("a refused text tells no village", x.count(0), 0);
        for (int i = 0; i < 4; i++) {
            Check.due("law " + i, Check.tell(x, 1, "y:" + i), i);
            Check.due("the tape is empty", x.count(4), 0);
            Check.due("spring " + i, Check.tell(x, 2, "f" + i), i);
        }
        Check.due("a fifth law", Check.tell(x, 1, "y:4"), NONE);
        Check.due("its tape stays", x.count(4), 3);
        Check.due("no fault in it", x.fault(1), NONE);
        Check.due("a fifth spring", Check.tell(x, 2, "n"), NONE);
        Check.due("laws", x.count(2), 4);
        Check.due("springs", x.count(3), 4);
        for (int i = 0; i < 4; i++) {
            Check.due("spring " + i + " is its own", x.step(i, 0, 1), i);
        }
        Check.due("a village all the same", Check.tell(x, 0, "f;f;f;f;f;f"), 6);
    }

    private static void newVillage() {
        FenceYards x = Check.village("sl50c30;fy5g1;f;wa1v0k9");
        Check.rule(x, "y:4");
        Check.tell(x, 2, "n;f0");
        x.apples(7);
        x.seen(0, 3, true);
        x.day();
        x.forgive(0);
        x.paint(1, 2);
        x.image();
        Check.due("a village in its place", Check.tell(x, 0, "fy6;f;f;w;wa2"), 3);
        int[] wants = {3, 2, 1, 1, 0, 0, 0, 40, 20, 0, 0, 7, 0, 0, 0};
        for (int what = 0; what < wants.length; what++) {
            Check.due("count(" + what + ") of a village in its place", x.count(what), wants[what]);
        }
        Check.due("no image of it", x.back(), NONE);
        Check.due("no act of it", x.undo(), NONE);
        Check.due("yards by the law that holds still", x.wrong(0, 3), 4);
        for (int farm = 0; farm < 3; farm++) {
            Check.due("yards of " + farm, x.farm(farm, 0), farm == 0 ? 6 : 10);
            Check.due("grudge of " + farm, x.farm(farm, 1), 3);
            Check.due("bare of " + farm, x.farm(farm, 4), farm == 0 ? 6 : 10);
            Check.due("forgiven of " + farm, x.farm(farm, 5), 0);
        }
        Check.due("who did 1", x.wrong(1, 0), 2);
        Check.due("to whom 1", x.wrong(1, 1), 1);
        Check.due("how heavy 1", x.wrong(1, 2), 3);
        Check.due("no third", x.wrong(2, 0), NONE);
        Check.tell(x, 0, "f;f;w;w;w;w");
        Check.tell(x, 0, "f;f;w;w;w;w");
        Check.tell(x, 0, "f;f;w");
        Check.due("no wrong of a village ahead", x.all(9), 1);
    }

    /** What a clause does not tell is not what the one ahead of it told. */
    private static void defaults() {
        FenceYards x = Check.village("fy7g1;sc5;fg2;fy8;wa2v1k9;wv2;wk1");
        Check.due("LIME without", x.count(7), 40);
        Check.due("COINS told", x.count(8), 5);
        int[][] farms = {{7, 1}, {10, 2}, {8, 3}};
        int[][] wrongs = {{2, 1, 9}, {0, 2, 3}, {0, 1, 1}};
        for (int i = 0; i < 3; i++) {
            Check.due("YARDS of " + i, x.farm(i, 0), farms[i][0]);
            Check.due("GRUDGING of " + i, x.farm(i, 1), farms[i][1]);
            for (int what = 0; what < 3; what++) {
                Check.due("wrong(" + i + ", " + what + ")", x.wrong(i, what), wrongs[i][what]);
            }
        }
        FenceYards y = Check.village("fy7g1;sl6");
        Check.due("LIME told", y.count(7), 6);
        Check.due("COINS without", y.count(8), 20);
    }

    private static void choosingLaws() {
        FenceYards x = Check.village("f;f;w");
        Check.due("law(0) of none", x.law(0), false);
        Check.due("law(NONE) of none", x.law(NONE), true);
        Check.tell(x, 1, "y:1");
        Check.tell(x, 1, "y:2");
        Check.due("none holds yet", x.count(5), NONE);
        Check.due("by none", x.wrong(0, 3), 6);
        Check.due("law(1)", x.law(1), true);
        Check.due("by law 1", x.wrong(0, 3), 2);
        Check.due("law(2)", x.law(2), false);
        Check.due("law(-2)", x.law(-2), false);
        Check.due("law 1 holds still", x.count(5), 1);
        Check.due("law(0)", x.law(0), true);
        Check.due("by law 0", x.wrong(0, 3), 1);
        Check.due("law(NONE)", x.law(NONE), true);
        Check.due("by none again", x.wrong(0, 3), 6);
        Check.due("none is held", x.count(5), NONE);
    }
}
