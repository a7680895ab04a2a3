/** Boundary cases of LAWS (Terms, part 1): clauses, digits, depth, numbers behind each sign, and YARDS of a wrong. */
public final class LawBoundsTest {
    private static final int NONE = Check.NONE;

    public static void main(String[] args) {
        oneClauseAtLeast();
        endsTooEarly();
        perhapsACondition();
        oneToFourDigits();
        sixDeep();
        seventhAtIt();
        depthIsOnlyWithin();
        everyByteBehind();
        blanks();
        highestNumber();
        lowestNumber();
        behindEachSign();
        divisionCuts();
        divisionByZero();
        firstThatHolds();
        noneThatHolds();
        comparisonsAtTheEdge();
        comparisonsTogether();
        heldWithinForty();
        noMoreThanBare();
        noMoreThanLime();
        withoutALaw();
        lettersAtTheirEnds();
        fullTape();
        deepestSum();
        Check.finish();
    }

    private static void dueFault(String text, int want) {
        Check.dueFault(1, text, want);
    }

    private static void dueFine(String text) {
        Check.dueFault(1, text, NONE);
    }

    /** YARDS of a wrong, k 4, at a bare fence of 40 yards, g 7, with 90 of lime. */
    private static void dueWorth(String law, int want) {
        dueYards("sl90;f;fy40g7;wk4", law, want);
    }

    private static void dueYards(String village, String law, int want) {
        FenceYards x = Check.village(village);
        Check.rule(x, law);
        Check.due("yards by " + law + " in " + village, x.wrong(0, 3), want);
    }

    private static void oneClauseAtLeast() {
        dueFault("", 0);
        dueFault("   ", 3);
        dueFault(";", 0);
        dueFault(";y:1", 0);
        dueFine("y:1");
        dueFine("y:1;y:2");
        dueFault("y:1;", 4);
        dueFault("y:1;;y:2", 4);
        dueFine("y:1" + ";y:1".repeat(59));
    }

    private static void endsTooEarly() {
        String[] texts = {"y", "y:", "y:k+", "y:k*", "y:[", "y:[k", "y:[k+", "y:k=", "y:k=1", "y:k=1&", "y:k=1|",
            "y:k=1?", "y:k=1?2;", "y:!", "y:!k", "y:!k=", "y:!k=1", "y:(", "y:(k", "y:(k=", "y:(k=1", "y:(k=1)",
            "y:(k=1)?", "y:k=[1", "y: ", "y:k=1 "};
        for (String text : texts) {
            dueFault(text, text.length());
        }
    }

    private static void perhapsACondition() {
        dueFine("y:k=1?2");
        dueFault("y:k?2", 3);
        dueFault("y:?2", 2);
        dueFault("y:k=1?k=2?3", 7);
        dueFault("y:!k", 4);
        dueFault("y:!k+1", 6);
        dueFault("y:!k+1;", 6);
        dueFault("y:(k)", 4);
        dueFault("y:(k=1);y:1", 7);
        dueFault("y:(k=1)+1", 7);
        dueFault("y:(k=1)=1?1", 7);
        dueFault("y:[k=1]?1", 4);
        dueFault("y:k=1=1?1", 5);
        dueFault("y:k=1?(k)", 6);
        dueFault("y:k=1?!k", 6);
    }

    private static void oneToFourDigits() {
        dueFine("y:0");
        dueFine("y:9999");
        dueFine("y:0000");
        dueFault("y:10000", 6);
        dueFault("y:00000", 6);
        dueFault("y:123456", 6);
        dueFault("y:k+12345", 8);
        dueFault("y:[12345]", 7);
        dueFault("y:12345=1?1", 6);
        dueFault("y:1=12345?1", 8);
        dueFault("y:1=1?12345", 10);
        dueFault("y:(12345=1)?1", 7);
        dueFault("y:1234 5", 7);
        dueFault("y:1 2", 4);
        dueWorth("y:0040", 40);
        dueWorth("y:9999-9960", 39);
    }

    private static void sixDeep() {
        dueFine("y:[[[[[[k]]]]]]");
        dueFine("y:((((((k=1))))))?1");
        dueFine("y:!!!!!!k=1?1");
        dueFine("y:!(!([[k]]=1))?1");
        dueFine("y:k=[[[[[[k]]]]]]?1");
        dueFine("y:k=1?[[[[[[k]]]]]]");
        dueFine("y:k;y:[[[[[[k]]]]]]");
    }

    private static void seventhAtIt() {
        dueFault("y:[[[[[[[k]]]]]]]", 8);
        dueFault("y:(((((((k=1)))))))?1", 8);
        dueFault("y:!!!!!!!k=1?1", 8);
        dueFault("y:!!!!!!(k=1)?1", 8);
        dueFault("y:!!!!!![k]=1?1", 8);
        dueFault("y:!!!!!!k=[k]?1", 10);
        dueFault("y:((((((!k=1))))))?1", 8);
        dueFault("y:(((((([k]=1))))))?1", 8);
        dueFault("y:k=[[[[[[[k]]]]]]]?1", 10);
        dueFault("y:k=1?[[[[[[[k]]]]]]]", 12);
        dueFault("y:1;y:[[[[[[[k", 12);
        dueFault("y:[[[[[[1+2*[", 12);
        dueFault("y:!(!(!(k=1&!k=1)))?1", 12);
        dueFault("y: [ [ [ [ [ [ [", 15);
    }

    private static void depthIsOnlyWithin() {
        dueFine("y:[[[[[[k]]]]]]+[[[[[[k]]]]]]*[[[[[[k]]]]]]");
        dueFine("y:!!!!!!k=1&!!!!!!k=1|((((((k=1))))))?[[[[[[k]]]]]]");
        dueFine("y:[[[[[[k]]]]]]=[[[[[[k]]]]]]?1;y:[[[[[[k]]]]]]");
        dueFine("y:(((((k=1)))))&(((((k=1&(k=1))))))?1");
        dueFault("y:(((((k=1)))))&((((((k=1&(k=1)))))))?1", 26);
    }

    private static void dueNext(String head, String goesOn) {
        for (int sign = 1; sign < 256; sign++) {
            boolean wrong = Check.faultOf(1, head + (char) sign) == head.length();
            Check.due("\"" + head + "\" goes on with " + sign, !wrong, goesOn.indexOf(sign) >= 0);
        }
    }

    private static void everyByteBehind() {
        String digits = "0123456789";
        String atoms = digits + "kgnbld[ ";
        dueNext("", "y ");
        dueNext("y", ": ");
        dueNext("y:", atoms + "!(");
        dueNext("y:k", "+-*/=<>; ");
        dueNext("y:k ", "+-*/=<>; ");
        dueNext("y:1", digits + "+-*/=<>; ");
        dueNext("y:1 ", "+-*/=<>; ");
        dueNext("y:1234", "+-*/=<>; ");
        dueNext("y:k+", atoms);
        dueNext("y:k-", atoms);
        dueNext("y:k*", atoms);
        dueNext("y:k/", atoms);
        dueNext("y:[", atoms);
        dueNext("y:[k", "+-*/] ");
        dueNext("y:[k]", "+-*/=<>; ");
        dueNext("y:[[[[[[", digits + "kgnbld ");
        dueNext("y:k=", atoms);
        dueNext("y:k<", atoms);
        dueNext("y:k>", atoms);
        dueNext("y:k=g", "+-*/&|? ");
        dueNext("y:k=g&", atoms + "!(");
        dueNext("y:k=g|", atoms + "!(");
        dueNext("y:k=g?", atoms);
        dueNext("y:k=g?k", "+-*/; ");
        dueNext("y:!", atoms + "!(");
        dueNext("y:!k", "+-*/=<> ");
        dueNext("y:!k=g", "+-*/&|? ");
        dueNext("y:!!!!!!", digits + "kgnbld ");
        dueNext("y:(", atoms + "!(");
        dueNext("y:(k", "+-*/=<> ");
        dueNext("y:(k=g", "+-*/&|) ");
        dueNext("y:(k=g)", "&|? ");
        dueNext("y:((k=g)", "&|) ");
        dueNext("y:k;", "y ");
    }

    private static void blanks() {
        dueFine("  y  :  (  k  =  1  |  !  g  <  2  )  &  n  >  3  ?  [  b  +  l  ]  *  d  -  9  /  1  ;  y  :  1  ");
        dueFault("y:1 0", 4);
        dueFault("y:k" + (char) 9, 3);
        dueFault((char) 160 + "y:k", 0);
    }

    /** 3 if the sum is so much, 5 if not. */
    private static void dueSum(String sum, String value) {
        dueWorth("y:" + sum + "=" + value + "?3;y:5", 3);
        dueWorth("y:" + sum + "<" + value + "?5;y:" + sum + ">" + value + "?6;y:3", 3);
    }

    private static void highestNumber() {
        dueSum("999*1000+999", "1000*1000-1");
        dueSum("1000*1000-1-999*1000", "999");
        dueSum("1000*1000-999*1000", "1000");
        dueSum("1000*1000+1-999*1000", "1000");
        dueSum("1001*1000-999*1000", "1000");
        dueSum("9999*9999-999*1000", "1000");
        dueSum("9999*101-999*1000", "1000");
        dueSum("5000*200+9999-999*1000", "1000");
    }

    private static void lowestNumber() {
        dueSum("0-999*1000-999", "0-1000*1000+1");
        dueSum("0-1000*1000+999*1000", "0-1000");
        dueSum("0-1000*1000-1+999*1000", "0-1000");
        dueSum("[0-1001]*1000+999*1000", "0-1000");
        dueSum("[0-9999]*9999+999*1000", "0-1000");
        dueSum("9999*[0-9999]+999*1000", "0-1000");
        dueSum("[0-9999]*[0-9999]-999*1000", "1000");
        dueSum("0-5000*200-9999+999*1000", "0-1000");
    }

    /** Each sign's answer is held, not the sum's alone. */
    private static void behindEachSign() {
        dueSum("1000*1000+7-7", "1000*1000-7");
        dueSum("0-1000*1000-7+7", "0-1000*1000+7");
        dueSum("1000*1000*2/2", "1000*1000/2");
        dueSum("1000*1000*1000/1000", "1000");
        dueSum("[1000*1000+1000]/1000", "1000");
        dueSum("1000*1000*0", "0");
        dueSum("1000*1000*[0-1]", "0-1000*1000");
    }

    private static void divisionCuts() {
        dueSum("7/2", "3");
        dueSum("[0-7]/2", "0-3");
        dueSum("7/[0-2]", "0-3");
        dueSum("[0-7]/[0-2]", "3");
        dueSum("1/2", "0");
        dueSum("[0-1]/2", "0");
        dueSum("9999/9999", "1");
        dueSum("9998/9999", "0");
        dueSum("0-7/2", "0-3");
        dueSum("0/5", "0");
    }

    private static void divisionByZero() {
        dueSum("7/0", "0");
        dueSum("0/0", "0");
        dueSum("[0-7]/0", "0");
        dueSum("7/[k-4]", "0");
        dueSum("7/n", "0");
        dueSum("5+7/0", "5");
        dueSum("7/0*9", "0");
        dueSum("7/0/0", "0");
    }

    private static void firstThatHolds() {
        dueWorth("y:1;y:2", 1);
        dueWorth("y:k=4?1;y:k=4?2", 1);
        dueWorth("y:k=3?1;y:k=4?2;y:k=4?3", 2);
        dueWorth("y:k=3?1;y:k=5?2;y:3", 3);
    }

    private static void noneThatHolds() {
        dueWorth("y:k=5?7", 0);
        dueWorth("y:!k=4?7;y:(k=5)?8", 0);
        FenceYards x = Check.village("sl90;f;fy40;wk4");
        Check.rule(x, "y:k=5?7");
        Check.due("forgiven by none", x.forgive(0), 0);
        Check.due("forgiven all the same", x.count(9), 1);
    }

    private static void comparisonsAtTheEdge() {
        dueWorth("y:k<4?1;y:2", 2);
        dueWorth("y:k<5?1;y:2", 1);
        dueWorth("y:k>4?1;y:2", 2);
        dueWorth("y:k>3?1;y:2", 1);
        dueWorth("y:k=4?1;y:2", 1);
        dueWorth("y:k=3?1;y:2", 2);
        dueWorth("y:0-1<0?1;y:2", 1);
        dueWorth("y:0>0-1?1;y:2", 1);
    }

    private static void comparisonsTogether() {
        String[] held = {"k=4", "k<5", "k>3", "!k=5", "(k=4)"};
        String[] not = {"k=5", "k<4", "k>4", "!k=4", "(k=5)"};
        for (int i = 0; i < held.length; i++) {
            for (int j = 0; j < held.length; j++) {
                dueWorth("y:" + held[i] + "&" + held[j] + "?1;y:2", 1);
                dueWorth("y:" + held[i] + "&" + not[j] + "?1;y:2", 2);
                dueWorth("y:" + not[i] + "&" + held[j] + "?1;y:2", 2);
                dueWorth("y:" + held[i] + "|" + not[j] + "?1;y:2", 1);
                dueWorth("y:" + not[i] + "|" + held[j] + "?1;y:2", 1);
                dueWorth("y:" + not[i] + "|" + not[j] + "?1;y:2", 2);
                dueWorth("y:!(" + held[i] + "|" + held[j] + ")?1;y:2", 2);
            }
        }
    }

    private static void heldWithinForty() {
        dueWorth("y:0-1", 0);
        dueWorth("y:0-9999*9999", 0);
        dueWorth("y:0", 0);
        dueWorth("y:1", 1);
        dueWorth("y:39", 39);
        dueWorth("y:40", 40);
        dueWorth("y:41", 40);
        dueWorth("y:9999*9999", 40);
    }

    private static void noMoreThanBare() {
        dueYards("sl90;f;fy6;w", "y:5", 5);
        dueYards("sl90;f;fy6;w", "y:6", 6);
        dueYards("sl90;f;fy6;w", "y:7", 6);
        dueYards("sl90;f;fy1;w", "y:40", 1);
        FenceYards x = Check.village("sl90;f;fy9;w;w");
        Check.rule(x, "y:5");
        x.paint(1, 2);
        Check.due("less false white", x.forgive(0), 5);
        Check.due("less true white too", x.wrong(1, 3), 2);
        x.paint(1, 2);
        Check.due("nothing is bare", x.wrong(1, 3), 0);
        Check.due("none also", x.forgive(1), 0);
    }

    private static void noMoreThanLime() {
        dueYards("sl6;f;fy40;w", "y:5", 5);
        dueYards("sl6;f;fy40;w", "y:6", 6);
        dueYards("sl6;f;fy40;w", "y:7", 6);
        dueYards("sl0;f;fy40;w", "y:7", 0);
        dueYards("sl6;f;fy5;w", "y:7", 5);
        dueYards("sl5;f;fy6;w", "y:7", 5);
    }

    private static void withoutALaw() {
        int[][] cases = {{1, 0, 3}, {1, 2, 3}, {1, 3, 2}, {1, 5, 2}, {1, 6, 1}, {1, 8, 1}, {1, 9, 0}, {9, 0, 19},
            {9, 2, 19}, {9, 3, 18}, {9, 9, 16}};
        for (int[] one : cases) {
            FenceYards x = Check.village("f;fy40g" + one[1] + ";wk" + one[0]);
            Check.due("k " + one[0] + ", g " + one[1], x.wrong(0, 3), one[2]);
        }
    }

    private static void lettersAtTheirEnds() {
        dueYards("sl99;f;fy40g9;wk1", "y:k", 1);
        dueYards("sl99;f;fy40g9;wk9", "y:k", 9);
        dueYards("sl99;f;fy40g0;w", "y:g+1", 1);
        dueYards("sl99;f;fy40g9;w", "y:g+1", 10);
        dueYards("sl99;f;fy40;w", "y:b-1", 39);
        dueYards("sl99;f;fy1;w", "y:b*40", 1);
        dueYards("sl99;f;fy40;w", "y:l-98", 1);
        dueYards("sl99;f;fy40;w", "y:n+d", 0);
        dueYards("sl99;f;fy40;w", "y:n+d+1", 1);
        FenceYards late = Days.at("f;fy40", 999);
        Check.rule(late, "y:d-989");
        late.sin(0, 1, 1);
        Check.due("d on the last day", late.wrong(0, 3), 10);
        Check.rule(late, "y:l-994");
        Check.due("l of the most lime", late.wrong(0, 3), 5);
        Check.rule(late, "y:n*7");
        Check.due("n of none", late.forgive(0), 0);
        late.sin(0, 1, 1);
        Check.due("n of one", late.wrong(0, 3), 7);
    }

    /** A law of 240 bytes, its last clause the one that holds; and one sum of 239. */
    private static void fullTape() {
        String law = "y:k=9?1;".repeat(29) + "y:12    ";
        Check.due("bytes", law.length(), 240);
        dueWorth(law, 12);
        dueFine(law);
        String sum = "y:" + "1+".repeat(118) + "1";
        Check.due("bytes", sum.length(), 239);
        dueWorth(sum, 40);
        dueWorth("y:150" + "-1".repeat(117), 33);
    }

    private static void deepestSum() {
        dueWorth("y:k=0|k=4&(k=0|k=4&(k=0|k=4&(k=0|k=4&(k=0|k=4&(k=0|k=4&(k=0|k=4&0+1*4=0+1*k))))))?1;y:2", 1);
        dueWorth("y:k=0|k=4&0+1*4=1+1*[0+1*[0+1*[0+1*[0+1*[0+1*[0+1*3]]]]]]?1;y:2", 1);
        dueWorth("y:1+2*[1+2*[1+2*[1+2*[k]]]]", 40);
        dueWorth("y:20-2*[9-2*[9-2*[9-2*[9-2*[9-2*[4]]]]]]", 40);
        dueWorth("y:6-1*[6-1*[6-1*[6-1*[6-1*[6-1*[4]]]]]]", 4);
    }
}
