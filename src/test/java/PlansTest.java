/** Promises 23 to 26: LEAST, ALL, MOST, PAIRS, by hand. */
public final class PlansTest {
    private static final int NONE = Check.NONE;

    public static void main(String[] args) {
        least();
        leastOfSeveral();
        every();
        richest();
        richestByLaw();
        pairs();
        refused();
        Check.finish();
    }

    private static void dueLeast(FenceYards x, int farm, int bits, int size) {
        Check.due("least(" + farm + ", 0)", x.least(farm, 0), bits);
        Check.due("least(" + farm + ", 1)", x.least(farm, 1), size);
    }

    private static void least() {
        FenceYards x = Check.village("sl99;fy10g0;fy9g0;fy30;wa1v0k2;wk1;wk3;wa1v0k2;wk1");
        dueLeast(x, 0, 0b1001, 2);
        dueLeast(x, 1, 0b110, 2);
        dueLeast(x, 2, NONE, NONE);
        Check.due("nothing is forgiven by it", x.count(9), 0);
        x.forgive(0);
        dueLeast(x, 0, 0b1000, 1);
        x.paint(0, 5);
        dueLeast(x, 0, 0, 0);
        x.paint(1, 4);
        dueLeast(x, 1, 0b100, 1);
        FenceYards dry = Check.village("sl5;fy6g0;f;wa1v0k9");
        dueLeast(dry, 0, NONE, NONE);
        dry.buy(1);
        dueLeast(dry, 0, 1, 1);
    }

    private static void leastOfSeveral() {
        FenceYards x = Check.village("sl99;fy9g0;f;wa1v0k2;wa1v0k1;wa1v0k3;wa1v0k2;wa1v0k5;wa1v0k4");
        dueLeast(x, 0, 0b10000, 1);
        FenceYards y = Check.village("sl99;fy9g0;f;wa1v0k2;wa1v0k1;wa1v0k3;wa1v0k2");
        dueLeast(y, 0, 0b101, 2);
        FenceYards crossed = Check.village("sl99;fy10g0;f;wa1v0k1;wa1v0k2;wa1v0k2;wa1v0k3");
        dueLeast(crossed, 0, 0b110, 2);
        dueRichest(crossed, 2, 0b110, 10);
        FenceYards z = Check.village("sl99;fy10g0;f;wa1v0k2;wa1v0k1;wa1v0k3;wa1v0k2");
        dueLeast(z, 0, 0b101, 2);
        z.sin(1, 0, 9);
        Check.rule(z, "y:[n+1]*[n+1]");
        dueLeast(z, 0, 0b111, 3);
    }

    private static void every() {
        FenceYards x = Check.village("sl30;fy5g0;fy7g0;wa1v0k2;wk2;wk1;wa1v0k9");
        Check.due("every(0)", x.every(0), 0b111);
        Check.due("every(1)", x.every(1), 3);
        x.forgive(1);
        Check.due("every(0) then", x.every(0), 0b101);
        x.forgive(2);
        x.forgive(0);
        Check.due("all are white", x.every(0), 0);
        Check.due("by none", x.every(1), 0);
        FenceYards y = Check.village("sl11;fy5g0;fy7g0;wa1v0k2;wk2;wk1;wa1v0k9");
        Check.due("too little lime for all", y.every(0), NONE);
        Check.due("too little lime for all", y.every(1), NONE);
    }

    private static void dueRichest(FenceYards x, int n, int bits, int yards) {
        Check.due("richest(" + n + ", 0)", x.richest(n, 0), bits);
        Check.due("richest(" + n + ", 1)", x.richest(n, 1), yards);
    }

    private static void richest() {
        FenceYards x = Check.village("sl99;fy8g0;fy9g0;wa1v0k2;wk3;wa1v0k3;wk1;wk1");
        dueRichest(x, 0, 0, 0);
        dueRichest(x, 1, 0b10, 7);
        dueRichest(x, 2, 0b110, 14);
        dueRichest(x, 3, 0b1110, 16);
        dueRichest(x, 4, 0b1111, 17);
        dueRichest(x, 9, 0b1111, 17);
        FenceYards dry = Check.village("sl0;f;f;w;w");
        dueRichest(dry, 9, 0, 0);
    }

    private static void richestByLaw() {
        FenceYards x = Check.village("sl99;fy40;fy40;fy40;w;wa2v1k1;wk9;wa2v0k5");
        Check.rule(x, "y:n=1?30;y:2");
        dueRichest(x, 1, 0b1, 2);
        dueRichest(x, 2, 0b101, 32);
        dueRichest(x, 3, 0b111, 34);
        dueRichest(x, 4, 0b1111, 64);
    }

    private static void duePairs(FenceYards x, int row, int yards) {
        Check.due("pairs(0)", x.pairs(0), row);
        Check.due("pairs(1)", x.pairs(1), yards);
    }

    private static void pairs() {
        duePairs(Check.village("f;f;f;f;f;f"), 999999, 0);
        duePairs(Check.village("f;f;w"), 90, 6);
        FenceYards x = Check.village("sl99;fy9g0;fy9g0;fy9g0;wa2v0k4;wa2v1k3;wa0v1k1;wa1v0k1");
        duePairs(x, 29, 12);
        x.paint(0, 9);
        duePairs(x, 319, 7);
        FenceYards ties = Check.village("sl99;fy9g0;fy9g0;fy9g0;wa2v1k3;wa2v0k3;wa2v0k3");
        duePairs(ties, 199, 7);
        FenceYards none = Check.village("sl0;f;f;f;wa1v2;wa0v2;wa0v1");
        duePairs(none, 920, 0);
        FenceYards apart = Check.village("sl9;fy40g0;fy40g0;w;wa1v0k9;wk9");
        duePairs(apart, 12, 18);
    }

    private static void refused() {
        FenceYards x = new FenceYards();
        Check.due("every without a village", x.every(0), NONE);
        Check.due("richest without a village", x.richest(1, 0), NONE);
        Check.due("pairs without a village", x.pairs(1), NONE);
        Check.tell(x, 0, "fy1;fy2;w;wa1v0");
        Check.due("every(0)", x.every(0), 3);
        Check.due("least(2, 0)", x.least(2, 0), NONE);
        Check.due("least(-1, 0)", x.least(-1, 0), NONE);
        Check.due("least(1, 2)", x.least(1, 2), NONE);
        Check.due("least(1, -1)", x.least(1, -1), NONE);
        Check.due("every(2)", x.every(2), NONE);
        Check.due("every(-1)", x.every(-1), NONE);
        Check.due("richest(10, 0)", x.richest(10, 0), NONE);
        Check.due("richest(-1, 0)", x.richest(-1, 0), NONE);
        Check.due("richest(1, 2)", x.richest(1, 2), NONE);
        Check.due("richest(1, -1)", x.richest(1, -1), NONE);
        Check.due("pairs(2)", x.pairs(2), NONE);
        Check.due("pairs(-1)", x.pairs(-1), NONE);
    }
}
