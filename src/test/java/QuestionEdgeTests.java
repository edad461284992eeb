/** Promise 26, THE QUESTION: each edge that the document names, and a step beyond it. */
public final class QuestionEdgeTests {
    private static final Checks CHECKS = new Checks();
    private static final int NONE = QueenBelt.NONE;

    private static void due(String what, long got, long want) {
        CHECKS.due(what, got, want);
    }

    private static void due(String what, boolean got, boolean want) {
        CHECKS.due(what, got, want);
    }

    /** Three rows: on, back, and kb kc still. Cards ka (s), kb (z), kc (s), threads a b c d. */
    private static QueenBelt three() {
        return Checks.loom(Checks.cards(3) + "pack q kb kc;weave on back still q;");
    }

    private static void asks(QueenBelt x, String question, long want) {
        due("26: " + question, Checks.ask(x, question), want);
        due("26: fault of " + question, x.fault(0), 0);
        due("26: place in " + question, x.fault(1), NONE);
        due("26: the tape goes", x.end(1), false);
    }

    /** A fault at the mark ^, which is no part of the question. */
    private static void fails(int fault, String marked) {
        int place = marked.indexOf('^');
        String question = marked.substring(0, place) + marked.substring(place + 1);
        QueenBelt x = three();
        String was = Checks.stateOf(x);
        due("26: " + question, Checks.ask(x, question), QueenBelt.NOTHING);
        due("26: fault of " + question, x.fault(0), fault);
        due("26: place in " + question, x.fault(1), place);
        due("26: the tape goes", x.end(1), false);
        CHECKS.same("26: all stays", Checks.stateOf(x), was);
    }

    private static void withoutRows() {
        QueenBelt[] all = {new QueenBelt(), Checks.loom(Checks.cards(8)), three()};
        while (all[2].unweave()) {
            all[2].loom(5);
        }
        for (QueenBelt x : all) {
            asks(x, "first all", NONE);
            asks(x, "last all", NONE);
            asks(x, "often all", 0);
            asks(x, "total 5", 0);
            asks(x, "most 5", 0);
            asks(x, "most 0-5", 0);
            asks(x, "least 5", 0);
            asks(x, "least 0-5", 0);
        }
    }

    private static void withoutCards() {
        QueenBelt x = Checks.loom("weave on back;");
        asks(x, "first all", 0);
        asks(x, "last all", 1);
        asks(x, "total back+still", 0);
        asks(x, "total front 0", 198);
        asks(x, "total twist 0", 0);
    }

    private static void firstLastOften() {
        QueenBelt x = three();
        String[] tests = {"all", "not all", "row=0", "row=1", "row=2", "row=3", "row<0", "row>2", "row<1",
            "row>1", "row<3", "row>0", "row=0 or row=2", "not row=1", "row<2 and row>0"};
        int[] first = {0, NONE, 0, 1, 2, NONE, NONE, NONE, 0, 2, 0, 1, 0, 0, 1};
        int[] last = {2, NONE, 0, 1, 2, NONE, NONE, NONE, 0, 2, 2, 2, 2, 2, 1};
        int[] often = {3, 0, 1, 1, 1, 0, 0, 0, 1, 1, 3, 2, 2, 2, 1};
        for (int i = 0; i < tests.length; i++) {
            asks(x, "first " + tests[i], first[i]);
            asks(x, "last " + tests[i], last[i]);
            asks(x, "often " + tests[i], often[i]);
        }
    }

    private static void totalMostLeast() {
        QueenBelt x = three();
        String[] sums = {"row", "0-row", "5", "0-5", "row-1", "row*row-2*row", "1-row*row"};
        int[] total = {3, -3, 15, -15, 0, -1, -2};
        int[] most = {2, 0, 5, -5, 1, 0, 1};
        int[] least = {0, -2, 5, -5, -1, -1, -3};
        for (int i = 0; i < sums.length; i++) {
            asks(x, "total " + sums[i], total[i]);
            asks(x, "most " + sums[i], most[i]);
            asks(x, "least " + sums[i], least[i]);
        }
    }

    private static void sixtyRows() {
        QueenBelt x = Checks.loom(Checks.cards(1) + "weave " + Checks.many("on back ", 30) + ";");
        asks(x, "last all", 59);
        asks(x, "first row>58", 59);
        asks(x, "often all", 60);
        asks(x, "total row", 1770);
        asks(x, "total back", 30);
        asks(x, "total 9999*9999", 60000000L);
        asks(x, "total 0-9999*9999", -60000000L);
        asks(x, "most row*row*row*row", 1000000);
    }

    private static void held() {
        QueenBelt x = three();
        asks(x, "most 1000*1000", 1000000);
        asks(x, "most 1000*1000-1", 999999);
        asks(x, "most 999*1001", 999999);
        asks(x, "most 1000*1001", 1000000);
        asks(x, "most 1000*1000+1", 1000000);
        asks(x, "most 999*1001+1", 1000000);
        asks(x, "most 999*1001+2", 1000000);
        asks(x, "most 999*1001+2-2", 999998);
        asks(x, "most 1000*1001-1", 999999);
        asks(x, "most (1000*1001)-1", 999999);
        asks(x, "most 1+(1000*1000)", 1000000);
        asks(x, "most (0-1000)*1000", -1000000);
        asks(x, "most (0-1000)*1000-1", -1000000);
        asks(x, "most (0-1000)*1000+1", -999999);
        asks(x, "most (0-999)*1001-1", -1000000);
        asks(x, "most (0-999)*1001-2+2", -999998);
        asks(x, "most (0-1000)*1001+1", -999999);
        asks(x, "most (0-1000)*(0-1001)", 1000000);
        asks(x, "most 9999*9999*9999*9999/9999", 100);
        asks(x, "most 0-9999*9999*9999", -1000000);
        asks(x, "most 0-9999*9999-9999*9999", -1000000);
        asks(x, "most 9999*9999/(0-1)", -1000000);
        asks(x, "most min(9999*9999,9999)", 9999);
        asks(x, "most max(9999*9999,9999)", 1000000);
        asks(x, "often 9999*9999=1000*1000", 3);
        asks(x, "total 9999*9999", 3000000);
        asks(x, "total 0-9999*9999", -3000000);
    }

    private static void parted() {
        QueenBelt x = three();
        int[] of = {0, 1, 6, 7, 8, -1, -6, -7, -8};
        int[] by = {1, 2, 7, 8, -1, -2, -7, -8};
        for (int a : of) {
            asks(x, "most " + said(a) + "/0", 0);
            asks(x, "most " + said(a) + "/(1-1)", 0);
            for (int b : by) {
                long want = (long) Math.floor((double) a / b);
                asks(x, "most " + said(a) + "/" + said(b), want);
                asks(x, "most " + said(a) + "/" + said(b) + "+1", want + 1);
            }
        }
        asks(x, "total 6/row", 9);
        asks(x, "most 9/0*5+1", 1);
        asks(x, "most 9/(2-row*2)", 4);
        asks(x, "least 9/(2-row*2)", -5);
    }

    private static String said(int n) {
        return n < 0 ? "(0-" + -n + ")" : "" + n;
    }

    private static void fromTheLeft() {
        QueenBelt x = three();
        asks(x, "most 9-4-3", 2);
        asks(x, "most 9-(4-3)", 8);
        asks(x, "most 100/7/2", 7);
        asks(x, "most 100/(7/2)", 33);
        asks(x, "most 7/2*2", 6);
        asks(x, "most 7*2/4", 3);
        asks(x, "most 2+3*4-5", 9);
        asks(x, "most (2+3)*4-5", 15);
        asks(x, "most 2*3+4*5", 26);
        asks(x, "most 8-6/2", 5);
        asks(x, "often not all or all", 3);
        asks(x, "often not all and not all or all", 3);
        asks(x, "often all or all and not all", 3);
        asks(x, "often [all or all] and not all", 0);
        asks(x, "often not [all or not all]", 0);
        asks(x, "often not [all and not all]", 3);
        asks(x, "often not not all", 3);
        asks(x, "often not row=0 and not row=2", 1);
    }

    private static void numbers() {
        QueenBelt x = three();
        asks(x, "most 0", 0);
        asks(x, "most 0000", 0);
        asks(x, "most 0012", 12);
        asks(x, "most 9999", 9999);
        asks(x, "most 1000", 1000);
        fails(1, "most 0000^0");
        fails(1, "most 1234^567");
        fails(1, "most 1+1000^0");
        fails(1, "most front 1234^5");
        fails(1, "most 1 ^12345");
        fails(1, "most row ^12345");
    }

    private static void rowBackStill() {
        QueenBelt x = three();
        int[] back = {0, 3, 0};
        int[] still = {0, 0, 2};
        for (int row = 0; row < 3; row++) {
            asks(x, "first row=" + row, row);
            asks(x, "total back*(1-min(1,max(row-" + row + "," + row + "-row)))", back[row]);
            asks(x, "total still*(1-min(1,max(row-" + row + "," + row + "-row)))", still[row]);
        }
        QueenBelt y = Checks.loom(Checks.cards(8) + "pack p ka kb kc kd ke kf kg kh;weave back still p on;");
        asks(y, "most back", 8);
        asks(y, "most still", 8);
        asks(y, "first back=8", 0);
        asks(y, "first still=8", 1);
        asks(y, "total back+still", 16);
    }

    /** Of each card in each row what belt(..) tells; of others 99, 99, 0, 0. */
    private static void ofCards() {
        QueenBelt x = three();
        String[] words = {"front", "behind", "slant", "twist"};
        String[] others = {"3", "4", "(0-1)", "99", "9999", "(9999*9999)", "(0-9999*9999)", "(3-0)", "(back+3)"};
        for (int i = 0; i < 4; i++) {
            for (int card = 0; card < 3; card++) {
                long total = 0;
                for (int row = 0; row < 3; row++) {
                    int cell = x.belt(row, card, i == 3 ? 4 : i);
                    total += (i == 3 ? cell - 100 : cell) * (row == 0 ? 1 : row == 1 ? 10 : 100);
                }
                asks(x, "total " + words[i] + " " + card + "*max(1,row*90-80)", total);
            }
            for (String other : others) {
                asks(x, "total " + words[i] + " " + other, i < 2 ? 297 : 0);
                asks(x, "most 7-" + words[i] + " " + other, i < 2 ? -92 : 7);
            }
        }
        asks(x, "total front row", 1);
        asks(x, "total front front front 0", 2);
        asks(x, "most twist 0*twist 0", 1);
        asks(x, "least slant 0-5", -4);
        QueenBelt y = Checks.loom(Checks.cards(8) + "weave back back;");
        asks(y, "least twist 7", -2);
        asks(y, "least twist 8", 0);
        asks(y, "most front 7", 3);
        asks(y, "most front 8", 99);
        asks(y, "most behind 7", 1);
        asks(y, "most slant 7", 1);
        asks(y, "most slant 6", 2);
    }

    private static void minMax() {
        QueenBelt x = three();
        asks(x, "most min(1,2)", 1);
        asks(x, "most min(2,1)", 1);
        asks(x, "most min(2,2)", 2);
        asks(x, "most max(1,2)", 2);
        asks(x, "most max(2,1)", 2);
        asks(x, "most max(0-1,0-2)", -1);
        asks(x, "most min(0-1,0-2)", -2);
        asks(x, "most min(1+1,max(0,5-row))*2", 4);
        asks(x, "most front min(0,1)", 1);
    }

    private static void compared() {
        QueenBelt x = three();
        String[] signs = {"<", ">", "="};
        int[][] want = {{3, 0, 0}, {0, 0, 3}, {0, 3, 0}};
        for (int i = 0; i < 3; i++) {
            for (int k = 0; k < 3; k++) {
                asks(x, "often 2" + signs[k] + (3 - i), want[i][k]);
                asks(x, "often 0-2" + signs[k] + "0-" + (1 + i), want[i][k]);
            }
        }
    }

    private static void tooManyOpen() {
        String[] opening = {"(", "front ", "behind ", "slant ", "twist ", "min(", "max("};
        for (String last : opening) {
            String mark = last.length() == 4 ? last.substring(0, 3) + "^(" : "^" + last;
            for (String open : opening) {
                fails(4, "total " + Checks.many(open, 6) + mark + "1");
            }
            fails(4, "often [not [not [not " + mark + "1");
            fails(4, "often [not (front (twist " + mark + "1");
        }
        fails(4, "often not not not not not not ^not all");
        fails(4, "often not not not not not not ^[all]");
        fails(4, "often [[[[[[^not all");
        fails(4, "often [not [not [not ^[");
        fails(4, "often [[[[[[all]]]]] and [[[[[^[");
        fails(4, "total ((((((1)))))+(((((^(");
        fails(4, "total ((((((^(");
        fails(1, "total ((((((^");
        fails(1, "total ((((((^!");
        fails(1, "total ((((((^not");
        fails(4, "often [[[[[[^(");
        QueenBelt x = three();
        asks(x, "total ((((((row))))))", 3);
        asks(x, "total ((((((1))))))+((((((1))))))*((((((1))))))", 6);
        asks(x, "often [[[[[[all]]]]]] and [[[[[[all]]]]]]", 3);
        asks(x, "often not not not not not not all", 3);
        asks(x, "often not not not not not not all and not all or not not not not not not all", 3);
        asks(x, "often not not not not not not 0<3", 3);
        asks(x, "total front front front front front front 0", 1);
        asks(x, "total front 0+front 0+front 0+front 0+front 0+front 0+front 0", 14);
        asks(x, "total min(min(min(min(min(min(1,2),3),4),5),6),min(min(min(min(min(7,8),9),1),2),3))", 3);
    }

    /** A not is open until its FACT ends, the sums of that with it. */
    private static void openUntilTheEnd() {
        fails(4, "often not not not not not (1)=(^(1");
        fails(4, "often not not not not not 1=(1)+(^(1");
        QueenBelt x = three();
        asks(x, "often not not not not 1=((1))", 3);
        asks(x, "often not not not not not 1=(1)", 0);
        asks(x, "often not not not not not not all or ((((((1))))))=1", 3);
        asks(x, "most front (1)+((((((1))))))", 2);
        asks(x, "most front (1)*front front front front front 1", 1);
    }

    private static void unknownWords() {
        fails(1, "^");
        fails(1, " \n^");
        fails(1, "^;");
        fails(1, "^row");
        fails(1, "^First all");
        fails(1, "^firs all");
        fails(1, "^firstall");
        fails(1, "first ^alll");
        fails(1, "first ^al");
        fails(1, "first ^colour");
        fails(1, "first ^or");
        fails(1, "first ^and");
        fails(1, "first not ^or all");
        fails(1, "first all ^orall");
        fails(1, "first all or ^or");
        fails(1, "first all and ^]");
        fails(1, "most ^on");
        fails(1, "most ^abcdefghijkl");
        fails(1, "most ^s");
        fails(1, "most front ^all");
        fails(1, "most front ^not 1");
        fails(1, "most front ^-1");
        fails(1, "most ^+1");
        fails(1, "most 1+^+1");
        fails(1, "most 1*^*");
        fails(1, "most min ^1");
        fails(1, "most min(1^)");
        fails(1, "most min(1,2^,");
        fails(1, "most max(1,^)");
        fails(1, "most min^1");
        fails(1, "most (1^");
        fails(1, "most (1^]");
        fails(1, "most (^)");
        fails(1, "often 1^");
        fails(1, "often 1<^");
        fails(1, "often 1<^>");
        fails(1, "often [1^]");
        fails(1, "often [1=1^");
        fails(1, "often [1=1^)");
        fails(1, "often (1^=");
    }

    private static void behindTheQuestion() {
        fails(1, "first all ^all");
        fails(1, "first all^;");
        fails(1, "first all ^5");
        fails(1, "first all^5");
        fails(1, "first all ^first all");
        fails(1, "total 5 ^and 5");
        fails(1, "total 5^=5");
        fails(1, "total 5^)");
        fails(1, "total 5 -^");
        fails(1, "first 1=1^=1");
        fails(1, "first all^]");
        fails(1, "total 5\n^\t");
        asks(three(), "\n total\n\n5 \n", 15);
        asks(three(), Checks.many(" ", 1590) + "total row ", 3);
        asks(three(), "total " + Checks.many("1+", 796) + "10", 3 * 806);
    }

    public static void main(String[] args) {
        withoutRows();
        withoutCards();
        firstLastOften();
        totalMostLeast();
        sixtyRows();
        held();
        parted();
        fromTheLeft();
        numbers();
        rowBackStill();
        ofCards();
        minMax();
        compared();
        tooManyOpen();
        openUntilTheEnd();
        unknownWords();
        behindTheQuestion();
        CHECKS.end();
    }
}
