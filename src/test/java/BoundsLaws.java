import java.util.ArrayList;
import java.util.List;

/** Boundary cases of the Terms of texts: lines, tokens, faults, laws and what they tell. */
final class BoundsLaws {
    private static final String HEAD = "net nodes 4 rate 2;";
    private static final String SIGNS = ";:+-*()[]=<>";

    private BoundsLaws() {
    }

    static void all() {
        netLine();
        linkLine();
        sums();
        truths();
        sixWithin();
        notWithinButBeside();
        nodesAndRate();
        linkNumbers();
        tenLinks();
        laterLaws();
        signsThatBegin();
        asLongAsTheyGoOn();
        blanks();
        threeDigits();
        firstFault();
        leastKind();
        cantStand();
        textsThatEnd();
        outOfBounds();
        oneTooMany();
        wordsOfCosts();
        wordsOfMay();
        keptWithin();
        choices();
    }

    private static void terms(String sentence) {
        Bounds.says(Bounds.TERMS, sentence);
    }

    private static void netLine() {
        terms("net nodes N rate N ; { LINE ; }");
        Check.good(HEAD, 1);
        Check.good(HEAD + "\n ", 1);
        Check.faulty("net nodes 4 rate 2", 2, 18);
        Check.faulty(HEAD + ";", 2, 19);
        Check.good(HEAD + "costs:1;", 2);
        Check.faulty(HEAD + "costs:1", 2, 26);
        Check.faulty(HEAD + "costs:1;;", 2, 27);
        String[] words = {"net", "nodes", "4", "rate", "2", ";"};
        for (int left = 0; left < words.length; left++) {
            Check.faulty(without("", words, left), 2, placeWithout("", words, left));
        }
    }

    /** A text of words, but for one. */
    private static String without(String start, String[] words, int left) {
        StringBuilder text = new StringBuilder(start);
        for (int i = 0; i < words.length; i++) {
            text.append(i == left ? "" : words[i] + " ");
        }
        return text.toString();
    }

    /** Where the one left out should have begun: there is another one, or the text's end. */
    private static int placeWithout(String start, String[] words, int left) {
        int place = start.length();
        for (int i = 0; i < left; i++) {
            place += words[i].length() + 1;
        }
        return place;
    }

    private static void linkLine() {
        terms("LINE: link N N long N work N | costs : SUM | may : TRUTH.");
        Check.good(HEAD + "link 0 1 long 1 work 1;", 2);
        String[] words = {"link", "0", "1", "long", "1", "work", "1", ";"};
        for (int left = 0; left < words.length; left++) {
            // Without the first node the second one is taken for it.
            int later = left == 1 ? "1 ".length() : 0;
            Check.faulty(without(HEAD, words, left), 2, placeWithout(HEAD, words, left) + later);
        }
        Check.faulty(HEAD + "costs 1;", 2, 25);
        Check.faulty(HEAD + "costs:;", 2, 25);
        Check.faulty(HEAD + "costs:1=1;", 2, 26);
        Check.good(HEAD + "costs:1;", 2);
        Check.faulty(HEAD + "may 1=1;", 2, 23);
        Check.faulty(HEAD + "may:;", 2, 23);
        Check.faulty(HEAD + "may:1;", 2, 24);
        Check.good(HEAD + "may:1=1;", 2);
        for (String word : new String[] {"net", "nodes", "rate", "long", "work", "if", "lin", "links", "cost", "mayb", "0", "(", ":"}) {
            Check.faulty(HEAD + word + " : 1;", 2, 19);
        }
    }

    private static void sums() {
        terms("SUM: TERM { + TERM | - TERM }; TERM: ATOM { * ATOM }; ATOM: N, ( SUM ), if TRUTH then SUM else SUM end, rate, long, "
                + "work, in costs from, to too, in may links, chords too.");
        costsOneLink("7", 7);
        costsOneLink("7+6", 13);
        costsOneLink("7-6", 1);
        costsOneLink("7*6", 42);
        costsOneLink("2+3*4", 14);
        costsOneLink("2*3+4", 10);
        costsOneLink("(2+3)*4", 20);
        costsOneLink("9-5-3", 1);
        costsOneLink("9-(5-3)", 7);
        costsOneLink("2*3*4*2", 48);
        costsOneLink("1+1+1+1+1+1+1+1+1+1+1+1", 12);
        costsOneLink("if 1=1 then 8+1 else 7 end*2+1", 19);
        costsOneLink("(long)+(work)", 4);
        for (String sign : new String[] {"+", "-", "*"}) {
            Check.faulty(HEAD + "costs:1" + sign + ";", 2, 27);
            Check.faulty(HEAD + "costs:" + sign + "1;", 2, 25);
            Check.faulty(HEAD + "costs:1" + sign + sign + "1;", 2, 27);
        }
        Check.faulty(HEAD + "costs:1 1;", 2, 27);
        Check.faulty(HEAD + "costs:();", 2, 26);
        Check.faulty(HEAD + "costs:(1;", 2, 27);
        Check.faulty(HEAD + "costs:1);", 2, 26);
        Check.faulty(HEAD + "costs:(1];", 2, 27);
        String choice = HEAD + "costs:if 1=1 then 2 else 3 end";
        Check.good(choice + ";", 2);
        Check.faulty(HEAD + "costs:if 1 then 2 else 3 end;", 2, 30);
        Check.faulty(HEAD + "costs:if 1=1 2 else 3 end;", 2, 32);
        Check.faulty(HEAD + "costs:if 1=1 then else 3 end;", 2, 37);
        Check.faulty(HEAD + "costs:if 1=1 then 2 3 end;", 2, 39);
        Check.faulty(HEAD + "costs:if 1=1 then 2 else end;", 2, 44);
        Check.faulty(HEAD + "costs:if 1=1 then 2 else 3;", 2, 45);
        Check.faulty(choice + " end;", 2, choice.length() + 1);
    }

    private static void costsOneLink(String sum, int want) {
        Bounds.due("ring(0, 3) by costs:" + sum, triangle("costs:" + sum + ";").ring(0, 3), 3 * want);
    }

    /** Links 2 1, 1 3 and 3 2, each 3 long with 1 to do; the rate is 2. */
    private static SpareRings triangle(String laws) {
        return Bounds.told(HEAD + Bounds.link(2, 1, 3, 1) + Bounds.link(1, 3, 3, 1) + Bounds.link(3, 2, 3, 1) + laws);
    }

    private static void mayHold(String truth, boolean want) {
        Bounds.due("rings() by may:" + truth, triangle("may:" + truth + ";").rings(), want ? 1 : 0);
    }

    private static void truths() {
        terms("TRUTH: BOTH { or BOTH }; BOTH: UNIT { and UNIT }; UNIT: not UNIT, [ TRUTH ], or SUM, one of = < >, SUM.");
        mayHold("2=2", true);
        mayHold("2=1", false);
        mayHold("2=3", false);
        mayHold("2<3", true);
        mayHold("2<2", false);
        mayHold("2<1", false);
        mayHold("2>1", true);
        mayHold("2>2", false);
        mayHold("2>3", false);
        String[] truths = {"1=2", "1=1"};
        for (int a = 0; a < 2; a++) {
            mayHold("not " + truths[a], a == 0);
            mayHold("not not " + truths[a], a == 1);
            for (int b = 0; b < 2; b++) {
                String two = truths[a] + " and " + truths[b];
                mayHold(two, a + b == 2);
                mayHold(truths[a] + " or " + truths[b], a + b > 0);
                mayHold("not " + truths[a] + " or " + truths[b], a == 0 || b == 1);
                mayHold("not[" + truths[a] + " or " + truths[b] + "]", a + b == 0);
                mayHold("1=1 or " + two, true);
                mayHold("[1=1 or " + truths[a] + "]and " + truths[b], b == 1);
                mayHold(two + " or 1=1", true);
                mayHold(two + " and 1=1 and 1=1", a + b == 2);
            }
        }
        Check.faulty(HEAD + "may:not;", 2, 26);
        Check.faulty(HEAD + "may:1=1 not 1=1;", 2, 27);
        Check.faulty(HEAD + "may:[];", 2, 24);
        Check.faulty(HEAD + "may:[1=1;", 2, 27);
        Check.faulty(HEAD + "may:1=1];", 2, 26);
        Check.faulty(HEAD + "may:[1=1);", 2, 27);
        Check.faulty(HEAD + "may:1=1=1;", 2, 26);
        Check.faulty(HEAD + "may:1==1;", 2, 25);
        Check.faulty(HEAD + "may:1<>1;", 2, 25);
        for (String word : new String[] {"or", "and"}) {
            Check.faulty(HEAD + "may:1=1 " + word + ";", 2, 27 + word.length());
            Check.faulty(HEAD + "may:" + word + " 1=1;", 2, 23);
            Check.faulty(HEAD + "may:1=1 " + word + " " + word + " 1=1;", 2, 28 + word.length());
            Check.faulty(HEAD + "may:1 " + word + " 1=1;", 2, 25);
        }
    }

    // ---- not [ ( if within one another, told by n [ ( i

    private static String truthOf(String within, int i) {
        if (i == within.length()) {
            return "1=1";
        }
        switch (within.charAt(i)) {
            case 'n':
                return "not " + truthOf(within, i + 1);
            case '[':
                return "[" + truthOf(within, i + 1) + "]";
            default:
                return sumOf(within, i) + "=1";
        }
    }

    private static String sumOf(String within, int i) {
        if (i == within.length()) {
            return "1";
        }
        return within.charAt(i) == '(' ? "(" + sumOf(within, i + 1) + ")" : "if " + truthOf(within, i + 1) + " then 1 else 1 end";
    }

    private static void collect(String within, boolean inSum, int depth, List<String> into) {
        if (within.length() == depth) {
            into.add(within);
            return;
        }
        for (char c : new char[] {'n', '[', '(', 'i'}) {
            if (!inSum || c == '(' || c == 'i') {
                collect(within + c, c == '(', depth, into);
            }
        }
    }

    private static int placeOfLast(String text, String within, int from) {
        int place = from - 1;
        for (char c : within.toCharArray()) {
            place = text.indexOf(c == 'n' ? "not " : c == 'i' ? "if " : "" + c, place + 1);
        }
        return place;
    }

    private static void sixWithin() {
        terms("At most six of not [ ( if within one another.");
        List<String> six = new ArrayList<>();
        collect("", false, 6, six);
        for (String within : six) {
            Check.good(HEAD + "may:" + truthOf(within, 0) + ";", 2);
        }
        List<String> seven = new ArrayList<>();
        collect("", false, 7, seven);
        Bounds.holds("many ways", six.size() > 1000 && seven.size() > 4000);
        for (String within : seven) {
            String text = HEAD + "may:" + truthOf(within, 0) + ";";
            Check.faulty(text, 4, placeOfLast(text, within, HEAD.length() + 4));
        }
        List<String> ofSums = new ArrayList<>();
        collect("", true, 6, ofSums);
        for (String within : ofSums) {
            Check.good(HEAD + "costs:" + sumOf(within, 0) + ";", 2);
        }
        ofSums.clear();
        collect("", true, 7, ofSums);
        for (String within : ofSums) {
            String text = HEAD + "costs:" + sumOf(within, 0) + ";";
            Check.faulty(text, 4, placeOfLast(text, within, HEAD.length() + 6));
        }
    }

    private static void notWithinButBeside() {
        terms("At most six of not [ ( if within one another.");
        String six = "((((((1))))))";
        Check.good(HEAD + "costs:" + six + "+" + six + "*" + six + ";", 2);
        Check.good(HEAD + "costs:(1)+(1)+(1)+(1)+(1)+(1)+(1)+(1)*(1);", 2);
        Check.good(HEAD + "may:not 1=1 and not 1=1 and not 1=1 or not 1=1 or not 1=1 or not 1=1 or not 1=1;", 2);
        Check.good(HEAD + "may:[1=1]and[1=1]and[1=1]and[1=1]and[1=1]and[1=1]and[1=1];", 2);
        Check.good(HEAD + "costs:if (1)=(1) then (((((1))))) else (((((1))))) end;", 2);
        String toFifth = "costs:if 1=1 then 1 else if 1=1 then 1 else if 1=1 then 1 else if 1=1 then 1 else if 1=1 then 1 else ";
        Check.good(HEAD + toFifth + "if 1=1 then 1 else 1 end end end end end end;", 2);
        Check.faulty(HEAD + toFifth + "if 1=1 then 1 else if 1=1", 4, HEAD.length() + toFifth.length() + 19);
        Check.faulty(HEAD + toFifth + "if 1=1 then (1", 4, HEAD.length() + toFifth.length() + 12);
        Check.good(HEAD + toFifth + "1 end end end end end+((((((1))))));", 2);
        Check.good(HEAD + "may:((((((1))))))=((((((1))))));", 2);
        Check.good(HEAD + "may:[[[[[[1=1]]]]]]or[[[[[[1=1]]]]]];costs:((((((1))))));", 3);
    }

    // ---- numbers

    private static void nodesAndRate() {
        terms("net: how many NODES, 1 to 8, numbered from 0 on; the RATE, 0 to 9.");
        for (int n = 0; n <= 999; n++) {
            String text = "net nodes " + n + " rate 0;";
            if (n >= 1 && n <= 8) {
                Bounds.due("nodes of: " + text, Check.good(text, 1).count(0), n);
            } else {
                Check.faulty(text, 3, 10);
            }
            text = "net nodes 1 rate " + n + ";";
            if (n <= 9) {
                Bounds.due("rate of: " + text, Check.good(text, 1).count(2), n);
            } else {
                Check.faulty(text, 3, 17);
            }
        }
        for (int n = 2; n <= 8; n++) {
            String head = "net nodes " + n + " rate 0;";
            Check.good(head + Bounds.link(0, n - 1, 1, 1), 2);
            Check.good(head + Bounds.link(n - 1, 0, 1, 1), 2);
            Check.faulty(head + Bounds.link(0, n, 1, 1), 3, 26);
            Check.faulty(head + Bounds.link(n, 0, 1, 1), 3, 24);
            SpareRings x = Bounds.told(head);
            Bounds.due("the last node", x.cut(0, n - 1, 0), 0);
            Bounds.due("none behind it", x.cut(0, n, 0), -2);
        }
    }

    private static void linkNumbers() {
        terms("link: two unlike NODES no LINK told ahead joins, how long, 1 to 9, its WORK, 0 to 2 units; numbered from 0 on, 10 at most.");
        for (int n = 0; n <= 999; n++) {
            String text = HEAD + "link 0 1 long " + n + " work 1;";
            if (n >= 1 && n <= 9) {
                Bounds.due("how long in: " + text, Check.good(text, 2).link(0, 2), n);
            } else {
                Check.faulty(text, 3, 33);
            }
            text = HEAD + "link 0 1 long 1 work " + n + ";";
            if (n <= 2) {
                Bounds.due("work in: " + text, Check.good(text, 2).link(0, 3), n);
            } else {
                Check.faulty(text, 3, 40);
            }
        }
        for (int a = 0; a < 5; a++) {
            for (int b = 0; b < 5; b++) {
                String text = HEAD + "link " + a + " " + b + " long 1 work 1;";
                if (a < 4 && b < 4 && a != b) {
                    SpareRings x = Check.good(text, 2);
                    Bounds.due("its nodes as told", 10 * x.link(0, 0) + x.link(0, 1), 10 * a + b);
                } else {
                    Check.faulty(text, 3, a < 4 ? 26 : 24);
                }
            }
        }
        Check.faulty("net nodes 1 rate 0;link 0 0", 3, 26);
        Check.faulty("net nodes 1 rate 0;link 1 0", 3, 24);
        joined();
    }

    private static void joined() {
        String one = HEAD + Bounds.link(1, 2, 1, 1);
        Check.good(one + Bounds.link(1, 3, 1, 1), 3);
        Check.good(one + Bounds.link(3, 2, 1, 1), 3);
        Check.good(one + Bounds.link(0, 3, 1, 1), 3);
        Check.faulty(one + Bounds.link(1, 2, 9, 2), 3, one.length() + 7);
        Check.faulty(one + Bounds.link(2, 1, 9, 2), 3, one.length() + 7);
        Check.faulty(one + "costs:1;" + Bounds.link(2, 1, 9, 2), 3, one.length() + 15);
        String nine = "net nodes 5 rate 0;";
        for (int a = 0; a < 5; a++) {
            for (int b = a + 1; b < 5 && a + b < 7; b++) {
                nine += Bounds.link(a, b, 1, 1);
            }
        }
        Check.good(nine + Bounds.link(3, 4, 1, 1), 11);
        for (int a = 0; a < 3; a++) {
            Check.faulty(nine + Bounds.link(4, a, 1, 1), 3, nine.length() + 7);
            Check.faulty(nine + Bounds.link(a, 4, 1, 1), 3, nine.length() + 7);
        }
    }

    private static void tenLinks() {
        terms("numbered from 0 on, 10 at most.");
        StringBuilder text = new StringBuilder("net nodes 8 rate 0;");
        int links = 0;
        for (int a = 0; a < 4 && links < 10; a++) {
            for (int b = a + 4; b < 8 && links < 10; b++) {
                SpareRings x = Check.good(text.toString(), links + 1);
                Bounds.due("links", x.count(1), links);
                Bounds.due("the last one", x.link(links - 1, 3), links == 0 ? -2 : links % 3);
                Bounds.due("none behind it", x.link(links, 3), -2);
                links++;
                text.append(Bounds.link(a, b, 1, links % 3));
            }
        }
        SpareRings x = Check.good(text.toString(), 11);
        Bounds.due("ten links", x.count(1), 10);
        Bounds.due("link(9, 3)", x.link(9, 3), 1);
        Bounds.due("link(10, 3)", x.link(10, 3), -2);
        Check.good(text + "may:1=1;costs:2;", 13);
        Check.faulty(text + Bounds.link(0, 1, 1, 1), 4, text.length());
    }

    private static void laterLaws() {
        terms("Later ones of costs, may strike.");
        Bounds.due("costs of one law", triangle("costs:5;").ring(0, 3), 15);
        Bounds.due("costs of two", triangle("costs:5;costs:6;").ring(0, 3), 18);
        Bounds.due("costs of three", triangle("costs:5;costs:6;costs:rate;").ring(0, 3), 6);
        Bounds.due("rings of two", triangle("may:1=1;may:1=2;").rings(), 0);
        Bounds.due("rings of two, the other way", triangle("may:1=2;may:1=1;").rings(), 1);
        SpareRings both = triangle("costs:5;may:1=2;costs:6;may:1=1;");
        Bounds.due("either law for itself: rings", both.rings(), 1);
        Bounds.due("either law for itself: costs", both.ring(0, 3), 18);
        SpareRings ahead = Bounds.told(HEAD + "costs:5;may:links=3;" + Bounds.link(0, 1, 3, 1) + Bounds.link(1, 2, 3, 1)
                + Bounds.link(2, 0, 3, 1));
        Bounds.due("laws told ahead of links: rings", ahead.rings(), 1);
        Bounds.due("laws told ahead of links: costs", ahead.ring(0, 3), 15);
        lawsOfTheNetAhead();
    }

    /** Nothing is left of the laws of a net that was told ahead, faulty or not. */
    private static void lawsOfTheNetAhead() {
        String none = HEAD + Bounds.link(0, 1, 3, 1) + Bounds.link(1, 2, 3, 1) + Bounds.link(2, 0, 3, 1);
        String[] ahead = {"costs:5;", "may:1=2;", "costs:5;may:1=2;", "may:1=2;costs:5;", "costs:1+2+3+4;may:not not not 1=1;", "may:not 1=1;",
            "costs:5;?", "may:1=2;costs:5;?"};
        for (String laws : ahead) {
            SpareRings x = new SpareRings();
            Bounds.tell(x, none + laws);
            Bounds.tell(x, none);
            Bounds.due("rings behind " + laws, x.rings(), 1);
            Bounds.due("ring(0, 3) behind " + laws, x.ring(0, 3), 9);
            Bounds.tell(x, none + laws);
            Bounds.tell(x, none + "costs:7+8;");
            Bounds.due("ring(0, 3) by costs:7+8 behind " + laws, x.ring(0, 3), 45);
            Bounds.due("rings by costs:7+8 behind " + laws, x.rings(), 1);
            Bounds.tell(x, none + laws);
            Bounds.tell(x, none + "may:1=1;");
            Bounds.due("ring(0, 3) by may:1=1 behind " + laws, x.ring(0, 3), 9);
            Bounds.due("rings by may:1=1 behind " + laws, x.rings(), 1);
        }
        StringBuilder most = new StringBuilder(none + "costs:5");
        while (most.length() < 897) {
            most.append("-0");
        }
        SpareRings x = new SpareRings();
        for (int i = 0; i < 5; i++) {
            Bounds.due("net of a law as long as can be", Bounds.tell(x, most + "+1;"), 5);
            Bounds.due("ring(0, 3)", x.ring(0, 3), 18);
        }
    }

    // ---- tokens

    private static void signsThatBegin() {
        terms("words (small letters), N (1 to 3 digits), the signs ; : + - * ( ) [ ] = < >.");
        for (int sign = 0; sign < 256; sign++) {
            String text = HEAD + (char) sign;
            boolean begins = sign >= 'a' && sign <= 'z' || sign >= '0' && sign <= '9' || SIGNS.indexOf(sign) >= 0;
            if (sign == 10 || sign == 32) {
                Check.good(text, 1);
                Check.faulty(HEAD + "may:1" + (char) sign, 2, 25);
            } else {
                Check.faulty(text, begins ? 2 : 1, 19);
                Check.faulty(HEAD + "may:1" + (char) sign, begins ? 2 : 1, endOfOne(sign));
            }
        }
        Check.good(HEAD + "costs : ( 1 + 2 ) * 3 - 4 ; may : [ 1 = 1 ] and 1 < 2 and 2 > 1 ;", 3);
    }

    /** Behind "may:1" a digit makes the number longer, and = < > may follow: then the text's end is wrong. */
    private static int endOfOne(int sign) {
        return sign >= '0' && sign <= '9' || "=<>+-*".indexOf(sign) >= 0 ? 25 : 24;
    }

    private static void asLongAsTheyGoOn() {
        terms("TOKENS, as long as they go on");
        Check.good("net nodes2rate3;link0 1long9work2;costs:if1=1then2else3end;may:not1=1or2<3and4>3;", 4);
        Check.faulty("netnodes 2 rate 3;", 2, 0);
        Check.faulty("net nodesrate 3;", 2, 4);
        Check.faulty(HEAD + "costs:longwork;", 2, 25);
        Check.faulty(HEAD + "costs:long work;", 2, 30);
        Check.faulty(HEAD + "may:1=1andnot 1=1;", 2, 26);
        Check.faulty(HEAD + "link 01 long 1 work 1;", 2, 27);
        Check.good(HEAD + "link 0 1long1work1;", 2);
        Check.faulty(HEAD + "costs:12 3;", 2, 28);
        Bounds.due("costs:12", triangle("costs:12;").ring(0, 3), 36);
        Bounds.due("costs:1+2", triangle("costs:1+2;").ring(0, 3), 9);
        Check.faulty(HEAD + "cos ts:1;", 2, 19);
        Check.faulty(HEAD + "costs:ra te;", 2, 25);
    }

    private static void blanks() {
        terms("between them blanks (10, 32)");
        Check.good(" \n net \n\n nodes  4\nrate\n2 ; \n", 1);
        Check.good("\n" + HEAD + "\ncosts\n:\n1\n;", 2);
        for (int sign : new int[] {0, 9, 11, 12, 13, 31, 33, 127, 128, 138, 160, 255}) {
            Check.faulty((char) sign + HEAD, 1, 0);
            Check.faulty("net" + (char) sign + "nodes 4 rate 2;", 1, 3);
            Check.faulty(HEAD + (char) sign, 1, 19);
            Check.faulty(HEAD + " " + (char) sign, 1, 20);
        }
    }

    private static void threeDigits() {
        terms("(4 digits and more: at their first)");
        Check.good("net nodes 008 rate 009;", 1);
        Check.good("net nodes 001 rate 000;", 1);
        Check.faulty("net nodes 0008 rate 0;", 1, 10);
        Check.faulty("net nodes 000 rate 0;", 3, 10);
        Check.faulty("net nodes 999 rate 0;", 3, 10);
        Check.faulty("net nodes 1000 rate 0;", 1, 10);
        Check.faulty("net nodes 10000000000000000000008 rate 0;", 1, 10);
        Check.faulty("net nodes 4294967297 rate 0;", 1, 10);
        Bounds.due("costs:098", triangle("costs:098;").ring(0, 3), 294);
        Bounds.due("costs:999-901", triangle("costs:999-901;").ring(0, 3), 294);
        Check.faulty(HEAD + "costs:0999;", 1, 25);
        Check.faulty(HEAD + "costs:1000;", 1, 25);
        Check.faulty(HEAD + "may:1=1000", 1, 25);
        Check.faulty(HEAD + "may:1=100", 2, 28);
        Check.faulty(HEAD + "link 0 1 long 1 work 0000;", 1, 40);
        Check.good(HEAD + "link 0 1 long 1 work 000;", 2);
    }

    // ---- faults

    private static void firstFault() {
        terms("FAULTS, the first along the text");
        String eleventh = Bounds.full(5, 1, 0);
        String[] starts = {"?", "end", "9", "("};
        for (int later = 0; later < 4; later++) {
            Check.faulty("net nodes ? rate " + starts[later], 1, 10);
            Check.faulty("net nodes end rate " + starts[later], 2, 10);
            Check.faulty("net nodes 9 rate " + starts[later], 3, 10);
            Check.faulty(HEAD + "costs:((((((( " + starts[later], 4, 31);
            Check.faulty(eleventh + "link " + starts[later], 4, eleventh.length());
        }
        Check.faulty(HEAD + "link 0 4 long 0 work 3", 3, 26);
        Check.faulty(HEAD + "link 4 4 long 0 work 3", 3, 24);
        Check.faulty(HEAD + "link 0 1 long 0 work 3", 3, 33);
        Check.faulty(HEAD + "link 0 1 long 0 work ?", 3, 33);
        Check.faulty(HEAD + "link 0 1 long 0 ?", 3, 33);
        Check.faulty(HEAD + "link 0 1 long 0?", 3, 33);
        Check.faulty(HEAD + "may:1?", 1, 24);
        Check.faulty(HEAD + "may:[1?", 1, 25);
    }

    private static void leastKind() {
        terms("of one TOKEN the least kind");
        Check.faulty("net nodes 1 rate 1000;", 1, 17);
        Check.faulty("net nodes 1 9999 0;", 1, 12);
        Check.faulty("net nodes 1 999 0;", 2, 12);
        Check.faulty(HEAD + "link 0 0000", 1, 26);
        Check.faulty(HEAD + "costs:((((((not 1", 2, 31);
        Check.faulty(HEAD + "costs:(((((([1", 2, 31);
        Check.faulty(HEAD + "costs:((((((1(", 2, 32);
        Check.faulty(HEAD + "costs:((((((1 if", 2, 33);
        Check.faulty(HEAD + "may:[[[[[[1=1[", 2, 32);
        Check.faulty(HEAD + "may:[[[[[[1=1 not", 2, 33);
        Check.faulty(HEAD + "may:[[[[[[1=not", 2, 31);
        String ten = Bounds.full(5, 1, 0);
        Check.faulty(ten + "link", 4, ten.length());
        Check.faulty(ten + "costs:link", 2, ten.length() + 6);
        Check.faulty(ten.substring(0, ten.length() - 1) + " link", 2, ten.length());
        Check.faulty(ten + "linked", 2, ten.length());
    }

    private static void cantStand() {
        terms("2 it can't stand there");
        terms("net must be told first, and once; a word of the other law).");
        Check.faulty(Bounds.link(0, 1, 1, 1) + HEAD, 2, 0);
        Check.faulty("costs:1;" + HEAD, 2, 0);
        Check.faulty("may:1=1;" + HEAD, 2, 0);
        Check.faulty(";" + HEAD, 2, 0);
        Check.faulty(HEAD + HEAD, 2, 19);
        Check.faulty(HEAD + "costs:1;" + HEAD, 2, 27);
        Check.faulty(HEAD + "net", 2, 19);
        for (String word : new String[] {"rate", "long", "work", "from", "to"}) {
            Check.good(HEAD + "costs:" + word + ";", 2);
            Check.good(HEAD + "costs:if " + word + "=1 then 1 else 1 end;", 2);
        }
        for (String word : new String[] {"links", "chords", "link", "nodes", "net", "lost", "a", "z", "then", "tos", "fro"}) {
            Check.faulty(HEAD + "costs:" + word + ";", 2, 25);
            Check.faulty(HEAD + "costs:1+" + word + ";", 2, 27);
            Check.faulty(HEAD + "costs:if " + word + "=1 then 1 else 1 end;", 2, 28);
        }
        for (String word : new String[] {"rate", "long", "work", "links", "chords"}) {
            Check.good(HEAD + "may:" + word + "=" + word + ";", 2);
            Check.good(HEAD + "may:if 1=1 then " + word + " else 1 end=1;", 2);
        }
        for (String word : new String[] {"from", "to", "link", "chord", "nodes", "net", "and", "end"}) {
            Check.faulty(HEAD + "may:" + word + "=1;", 2, 23);
            Check.faulty(HEAD + "may:1=" + word + ";", 2, 25);
            Check.faulty(HEAD + "may:if 1=1 then " + word, 2, 35);
        }
    }

    private static void textsThatEnd() {
        terms("(the end: the text's length;");
        String text = "net nodes 4 rate 2;\nlink 0 1 long 2 work 1 ; costs : ( 3 + long ) * if not [ rate < 3 ] then 1 else 5 end ;"
                + " may : links = 3 and chords > 0 or 1 < 2 ; ";
        for (int n = 0; n <= text.length(); n++) {
            String cut = text.substring(0, n);
            boolean goesOn = n > 0 && Character.isLetter(cut.charAt(n - 1)) && n < text.length() && Character.isLetter(text.charAt(n));
            if (cut.trim().endsWith(";")) {
                int lines = (int) cut.chars().filter(c -> c == ';').count();
                Check.good(cut, lines);
                cutIs(text, n, lines, -1);
            } else {
                int start = n;
                while (goesOn && Character.isLetter(text.charAt(start - 1))) {
                    start--;
                    goesOn = start > 0;
                }
                Check.faulty(cut, 2, start);
                cutIs(text, n, -32, start);
            }
        }
        String numbers = HEAD + "costs:123+456;";
        cutIs(numbers, numbers.length() - 7, -32, numbers.length() - 7);
        cutIs(numbers, numbers.length() - 6, -32, numbers.length() - 6);
        cutIs(numbers, numbers.length() - 3, -32, numbers.length() - 3);
        cutIs(numbers + "9", numbers.length(), 2, -1);
        cutIs("net nodes 1 rate 0;net", 19, 1, -1);
        cutIs("net nodes 1 rate 01234", 18, -32, 18);
        cutIs("net nodes 1 rate 01234", 19, -32, 19);
        cutIs("net nodes 1 rate 01234", 20, -33, 17);
        cutIs("net nodes 1 rate 01234", 21, -31, 17);
        Check.faulty("   ", 2, 3);
        Check.faulty("\n", 2, 1);
        Check.faulty("net nodes 4 rate 2 \n\n", 2, 21);
    }

    /** The first n bytes of a text that goes on behind them are the net. */
    private static void cutIs(String text, int n, int answer, int place) {
        SpareRings x = new SpareRings();
        Check.feed(x, (text + "end").getBytes());
        Bounds.due("net(" + n + ") of: " + text, x.net(n), answer);
        Bounds.due("its fault's place", x.fault(1), place);
    }

    private static void outOfBounds() {
        terms("3 an N out of its bounds (the second NODE as the first; two that are joined).");
        Check.faulty(HEAD + "link 3 3", 3, 26);
        Check.faulty(HEAD + "link 3 4", 3, 26);
        Check.faulty(HEAD + "link 4 3", 3, 24);
        Check.faulty(HEAD + "link 3 2", 2, 27);
        Check.faulty(HEAD + "link 8 3", 3, 24);
        Check.faulty(HEAD + "link 3 8", 3, 26);
        Check.faulty(HEAD + "link 0 32", 3, 26);
        Check.faulty(HEAD + "link 0 33", 3, 26);
        Check.faulty(HEAD + "link 256 1", 3, 24);
        Check.faulty(HEAD + "link 0 1 long 257", 3, 33);
        Check.faulty(HEAD + "link 0 1 long 1 work 256", 3, 40);
        Check.faulty("net nodes 264 rate 0;", 3, 10);
        String one = HEAD + Bounds.link(3, 1, 1, 1);
        Check.faulty(one + "link 3 1", 3, one.length() + 7);
        Check.faulty(one + "link 1 3", 3, one.length() + 7);
        Check.faulty(one + "link 1 2", 2, one.length() + 8);
        Check.good(HEAD + "costs:0;", 2);
        Check.good(HEAD + "costs:999;", 2);
    }

    private static void oneTooMany() {
        terms("4 the first TOKEN of an 11th link; a seventh of not [ ( if.");
        String ten = Bounds.full(5, 1, 0);
        Check.good(ten, 11);
        Check.faulty(ten + "link 0 1 long 1 work 1;", 4, ten.length());
        Check.faulty(ten + "\n link", 4, ten.length() + 2);
        Check.faulty(ten + "costs:1;link ?", 4, ten.length() + 8);
        Check.faulty(ten + "lin", 2, ten.length());
        Check.good(ten + "costs:1;", 12);
        Check.faulty(HEAD + "may:[[[[[[not", 4, 29);
        Check.faulty(HEAD + "may:[[[[[[[", 4, 29);
        Check.faulty(HEAD + "may:[[[[[[(", 4, 29);
        Check.faulty(HEAD + "may:[[[[[[if", 4, 29);
        Check.faulty(HEAD + "may:[[[[[[", 2, 29);
        Check.faulty(HEAD + "may:[[[[[[1=(", 4, 31);
        Check.faulty(HEAD + "may:[[[[[[1=1]]]]]]or[[[[[[[", 4, HEAD.length() + 27);
        terms("1 no TOKEN begins so");
        Check.faulty(ten + "Link", 1, ten.length());
    }

    // ---- what laws tell

    private static void wordsOfCosts() {
        terms("In costs: rate: the RATE; long, work, from, to: of the LINK (from, to: its NODES as told).");
        String net = "net nodes 8 rate 9;link 7 0 long 9 work 2;link 0 6 long 1 work 0;link 6 7 long 4 work 1;";
        ringCosts(net + "costs:rate;", 27);
        ringCosts(net + "costs:long;", 14);
        ringCosts(net + "costs:work+5;", 18);
        ringCosts(net + "costs:from+1;", 16);
        ringCosts(net + "costs:to+1;", 16);
        ringCosts(net + "costs:from*10+to+1;", 71 + 7 + 68);
        ringCosts(net + "costs:to*10+from+1;", 8 + 61 + 77);
        ringCosts(net + "costs:if from<to then 20 else 30 end;", 30 + 20 + 20);
        SpareRings x = Bounds.told(net + "costs:rate+2;");
        for (int rate = 0; rate <= 9; rate++) {
            x.rate(rate);
            Bounds.due("ring(0, 3) by rate " + rate, x.ring(0, 3), 3 * rate + 6);
        }
        x.fail(0);
        x.lay(0);
        Bounds.due("a failed link costs, too", x.ring(0, 3), 33);
    }

    private static void ringCosts(String net, int want) {
        Bounds.due("ring(0, 3) of: " + net, Bounds.told(net).ring(0, 3), want);
    }

    private static void wordsOfMay() {
        terms("In may: rate; links: how many are ON it; chords: how many CHORDS; long, work: of all LINKS ON it added.");
        // Ring 0: links 0 to 3, 10 long, work 3, a chord; rings 1, 2: three links each, 7 long, work 4 and 3.
        String[] words = {"links", "chords", "long", "work", "rate"};
        int[][] values = {{4, 3, 3}, {1, 0, 0}, {10, 7, 7}, {3, 4, 3}, {1, 1, 1}};
        int[] links = {15, 19, 28};
        for (int w = 0; w < words.length; w++) {
            for (int v = 0; v <= 11; v++) {
                SpareRings x = Bounds.told(Bounds.SQUARE + "may:" + words[w] + "=" + v + ";");
                for (int r = 0; r < 3; r++) {
                    Bounds.holds("ring " + links[r] + " by " + words[w] + "=" + v, (x.ringOf(links[r]) >= 0) == (values[w][r] == v));
                }
            }
        }
        SpareRings most = Bounds.told(Bounds.around(8, 9, 2) + Bounds.link(0, 4, 1, 1) + Bounds.link(1, 5, 1, 1)
                + "may:links=8 and chords=2 and long=72 and work=16;");
        Bounds.due("the longest ring", most.rings(), 1);
        SpareRings x = Bounds.told(Bounds.SQUARE + "may:rate>0 and rate<9;");
        int[] rings = {0, 3, 3, 3, 3, 3, 3, 3, 3, 0};
        for (int rate = 0; rate <= 9; rate++) {
            Bounds.due("rate(" + rate + ")", x.rate(rate), rings[rate]);
        }
    }

    /** Numbers beyond 99 are shown by what is left of them. */
    private static void left(String sum, int want) {
        Bounds.due("what costs:" + sum + " leaves", triangle("costs:" + sum + ";").ring(0, 3), 3 * want);
    }

    private static void keptWithin() {
        terms("Each + - * is kept from -1,000,000 to 1,000,000;");
        String most = "999*999+999+999";
        left(most + "+0-999*999-999-949", 50);
        left(most + "+1-999*999-999-949", 51);
        left(most + "+2-999*999-999-949", 51);
        left(most + "+999-999*999-999-949", 51);
        String least = "0-999*999-999-999";
        left(least + "-0+999*999+999+999+50", 50);
        left(least + "-1+999*999+999+999+51", 50);
        left(least + "-2+999*999+999+999+51", 50);
        left(least + "-999+999*999+999+999+51", 50);
        left("(999+1)*(999+1)-999*999-999-949", 51);
        left("(999+1)*(999+2)-999*999-999-949", 51);
        left("(999+0)*(999+1)-999*999-949", 50);
        left("999*999*999*999*999-999*999-999-949", 51);
        left("(0-999-1)*(999+1)+999*999+999+999+51", 50);
        left("(0-999-1)*(999+2)+999*999+999+999+51", 50);
        left("(0-999)*(999+1)+999*999+999+50", 50);
        left("(0-999)*999*999*999+999*999+999+999+51", 50);
        left("(0-999)*999*(0-999)*999-999*999-999-949", 51);
        left("(999*999+999+999+1)-(0-1)-999*999-999-949", 51);
        left("(0-999*999-999-999-1)+(0-1)+999*999+999+999+51", 50);
        left("(999+1)*(999+1)*((999+1)*(999+1))-999*999-999-949", 51);
        mayHold("999*999+999+999+1=999*999*2", true);
        mayHold("999*999+999+999<999*999*2", true);
        mayHold("0-999*999-999-999-1=0-999*999*2", true);
        mayHold("0-999*999-999-999>0-999*999*2", true);
    }

    private static void choices() {
        terms("if tells the one SUM, if the TRUTH holds, else the other one.");
        left("if 2=2 then 10 else 20 end", 10);
        left("if 2=3 then 10 else 20 end", 20);
        left("if rate=2 then if rate=3 then 10 else 20 end else 30 end", 20);
        left("if rate=2 then 10 else if rate=3 then 20 else 30 end end", 10);
        left("if if rate=2 then 1 else 2 end=1 then 10 else 20 end", 10);
        left("if rate=3 then 999*999*999 else 20 end", 20);
        left("1+if rate=3 then 10 else 20 end*2", 41);
        left("if [rate=3 or rate=2] and not rate=3 then 1 else 2 end+if 1=2 then 1 else 2 end", 3);
    }
}
