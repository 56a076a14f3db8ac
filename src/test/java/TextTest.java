import java.util.Arrays;

/** Promises 2 to 4 and the language of texts. */
public final class TextTest {
    private static final String HEAD = "net nodes 4 rate 2;";

    public static void main(String[] args) {
        tape();
        netCall();
        headFaults();
        linkFaults();
        lawFaults();
        withinFaults();
        tokenFaults();
        goodTexts();
        Check.end();
    }

    private static void tape() {
        SpareRings x = new SpareRings();
        for (int i = 1; i <= 45; i++) {
            Check.due("feed " + i, x.feed(0x20202020, 0x20202020, 0x20202020, 0x20202020, 0x20202020), 20 * i);
        }
        Check.due("feed beyond 900", x.feed(1, 2, 3, 4, 5), -5);
        Check.due("count(7)", x.count(7), 900);
        Check.due("net(901)", x.net(901), -3);
        Check.due("net(-1)", x.net(-1), -3);
        Check.due("count(7) still", x.count(7), 900);
        Check.due("fault(0) without a net read", x.fault(0), 0);
        Check.due("net(900) of blanks", x.net(900), -32);
        Check.due("its fault's place is the text's length", x.fault(1), 900);
        Check.due("count(7) behind it", x.count(7), 0);
        Check.due("net(0) of nothing", x.net(0), -32);
        Check.due("its fault's place", x.fault(1), 0);
        // The highest byte of each int comes first: "net nodes 1 rate 0 ;".
        Check.due("feed", x.feed(0x6e657420, 0x6e6f6465, 0x73203120, 0x72617465, 0x2030203b), 20);
        Check.due("net(20)", x.net(20), 1);
    }

    private static void netCall() {
        SpareRings x = Check.told(HEAD + "link 0 1 long 1 work 2;link 1 2 long 1 work 1;link 2 0 long 1 work 1;");
        x.lay(0);
        x.fail(0);
        Check.due("lost()", x.lost(), 1);
        Check.due("a faulty net", Check.tell(x, HEAD + "link 0 1 long 1 work 3;"), -33);
        Check.due("all stays: links", x.count(1), 3);
        Check.due("all stays: copies", x.count(3), 1);
        Check.due("all stays: failed", x.count(4), 1);
        Check.due("all stays: undone", x.count(6), 2);
        Check.due("all stays: lines", x.count(8), 4);
        Check.due("the tape is empty", x.count(7), 0);
        Check.due("fault(0)", x.fault(0), 3);
        Check.due("fault(1)", x.fault(1), 40);
        Check.due("fault(2)", x.fault(2), -1);
        Check.due("fault(-1)", x.fault(-1), -1);
        Check.due("net(1) of nothing", x.net(1), -3);
        Check.due("fault(0) still", x.fault(0), 3);
        Check.feed(x, (HEAD + "link 0 1 long 9 work 1;link 1 0").getBytes());
        Check.due("a net of the first bytes", x.net(HEAD.length() + 23), 2);
        Check.due("the rest is gone", x.count(7), 0);
        Check.due("fault(0)", x.fault(0), 0);
        Check.due("fault(1)", x.fault(1), -1);
        Check.due("links", x.count(1), 1);
        Check.due("no copies", x.count(3), 0);
        Check.due("none failed", x.count(4), 0);
        Check.due("nothing undone", x.count(6), 0);
        Check.due("rate", x.count(2), 2);
        Check.feed(x, "net nodes 1 rate 10000; ".getBytes());
        Check.due("a number that the text's end cuts", x.net(20), -33);
        Check.feed(x, "net nodes 1 rate 10000; ".getBytes());
        Check.due("one digit more", x.net(21), -31);
        Check.feed(x, "net nodes 1 rate 0;link ".getBytes());
        Check.due("a word that it cuts", x.net(22), -32);
        Check.due("its place", x.fault(1), 19);
        x.rate(7);
        Check.tell(x, HEAD);
        Check.due("the rate told", x.count(2), 2);
    }

    private static void headFaults() {
        Check.faulty("", 2, 0);
        Check.faulty("nets nodes 1 rate 0;", 2, 0);
        Check.faulty("net node 1 rate 0;", 2, 4);
        Check.faulty("net nodes rate 0;", 2, 10);
        Check.faulty("net nodes 0 rate 0;", 3, 10);
        Check.faulty("net nodes 9 rate 0;", 3, 10);
        Check.faulty("net nodes 999 rat 0;", 3, 10);
        Check.faulty("net nodes 1 rat 0;", 2, 12);
        Check.faulty("net nodes 1 rate 10;", 3, 17);
        Check.faulty("net nodes 1 rate 0", 2, 18);
        Check.faulty("net nodes 1 rate 0 \n ", 2, 21);
        Check.faulty("net nodes 1 rate 0;;", 2, 19);
        Check.faulty("link 0 1 long 1 work 1;", 2, 0);
        Check.faulty(HEAD + HEAD, 2, 19);
        Check.faulty(HEAD + "rate 1;", 2, 19);
        Check.faulty(HEAD + "7;", 2, 19);
        Check.faulty(HEAD + "z;", 2, 19);
        Check.faulty(HEAD + "linkz 0 1;", 2, 19);
        Check.faulty(HEAD + "a 0 1;", 2, 19);
    }

    private static void linkFaults() {
        String link = HEAD + "link 0 1 long 1 work 1;";
        Check.faulty(HEAD + "link 4 0 long 1 work 1;", 3, 24);
        Check.faulty(HEAD + "link 0 4 long 1 work 1;", 3, 26);
        Check.faulty(HEAD + "link 2 2 long 1 work 1;", 3, 26);
        Check.faulty(link + "link 0 1 long 1 work 1;", 3, link.length() + 7);
        Check.faulty(link + "link 1 0 long 1 work 1;", 3, link.length() + 7);
        String links = link + "link 2 0 long 1 work 1;link 3 1 long 1 work 1;link 2 3 long 1 work 1;";
        for (String pair : new String[] {"0 1", "1 0", "0 2", "2 0", "1 3", "3 1", "2 3", "3 2"}) {
            Check.faulty(links + "link " + pair, 3, links.length() + 7);
        }
        Check.faulty(HEAD + "link 0 1 long 0 work 1;", 3, 33);
        Check.faulty(HEAD + "link 0 1 long 10 work 1;", 3, 33);
        Check.faulty(HEAD + "link 0 1 long 1 work 3;", 3, 40);
        Check.faulty(HEAD + "link 0 long 1 work 1;", 2, 26);
        Check.faulty(HEAD + "link 0 1 work 1 long 1;", 2, 28);
        Check.faulty(HEAD + "link 0 1 long 1 work 1", 2, 41);
        Check.faulty(HEAD + "link 0 1 long 1 work 1 link", 2, 42);
        Check.faulty("net nodes 1 rate 0;link 0 0 long 1 work 1;", 3, 26);
        StringBuilder eleven = new StringBuilder("net nodes 5 rate 1;");
        for (int a = 0; a < 5; a++) {
            for (int b = a + 1; b < 5; b++) {
                eleven.append("link ").append(a).append(' ').append(b).append(" long 1 work 0;");
            }
        }
        Check.good(eleven.toString(), 11);
        Check.faulty(eleven + "link", 4, eleven.length());
        Check.faulty(eleven + "  link 9", 4, eleven.length() + 2);
    }

    private static void lawFaults() {
        Check.faulty(HEAD + "costs 1;", 2, 25);
        Check.faulty(HEAD + "costs:links;", 2, 25);
        Check.faulty(HEAD + "costs:chords;", 2, 25);
        Check.faulty(HEAD + "may:from=1;", 2, 23);
        Check.faulty(HEAD + "may:1=to;", 2, 25);
        Check.faulty(HEAD + "costs:nodes;", 2, 25);
        Check.faulty(HEAD + "costs:;", 2, 25);
        Check.faulty(HEAD + "costs:1 2;", 2, 27);
        Check.faulty(HEAD + "costs:1+;", 2, 27);
        Check.faulty(HEAD + "costs:-1;", 2, 25);
        Check.faulty(HEAD + "costs:1=1;", 2, 26);
        Check.faulty(HEAD + "costs:not 1=1;", 2, 25);
        Check.faulty(HEAD + "costs:[1];", 2, 25);
        Check.faulty(HEAD + "costs:(1=1);", 2, 27);
        Check.faulty(HEAD + "costs:(1;", 2, 27);
        Check.faulty(HEAD + "costs:1);", 2, 26);
        Check.faulty(HEAD + "costs:if 1 then 1 else 1 end;", 2, 30);
        Check.faulty(HEAD + "costs:if 1=1 else 1 end;", 2, 32);
        Check.faulty(HEAD + "costs:if 1=1 then 2 end;", 2, 39);
        Check.faulty(HEAD + "costs:if 1=1 then 2 else 3;", 2, 45);
        Check.faulty(HEAD + "may:1;", 2, 24);
        Check.faulty(HEAD + "may:1=1=1;", 2, 26);
        Check.faulty(HEAD + "may:(1=1);", 2, 25);
        Check.faulty(HEAD + "may:[1=1;", 2, 27);
        Check.faulty(HEAD + "may:[1];", 2, 25);
        Check.faulty(HEAD + "may:1=1 or;", 2, 29);
        Check.faulty(HEAD + "may:1=1 and or;", 2, 31);
        Check.faulty(HEAD + "may:not;", 2, 26);
        Check.faulty(HEAD + "may:1=1", 2, 26);
    }

    private static void withinFaults() {
        Check.good(HEAD + "costs:((((((1))))));", 2);
        Check.faulty(HEAD + "costs:(((((((1)))))));", 4, 31);
        Check.good(HEAD + "may:not not not not not not 1=1;", 2);
        Check.faulty(HEAD + "may:not not not not not not not 1=1;", 4, 47);
        Check.good(HEAD + "may:[[[[[[1=1]]]]]] and [[[[[[1=1]]]]]];", 2);
        Check.faulty(HEAD + "may:[[[[[[[1=1]]]]]]];", 4, 29);
        Check.good(HEAD + "may:not[not[not(1)=1]];", 2);
        Check.faulty(HEAD + "may:not[not[not[(1)=1", 4, 35);
        Check.faulty(HEAD + "may:not[not[(if (", 4, 35);
        Check.faulty(HEAD + "may:not[not[(1)=1 or if 1=1 then 1 else 1 end=not", 2, 65);
        Check.faulty(HEAD + "costs:if 1=if 1=if 1=if 1=if 1=if 1=(", 4, 55);
        Check.faulty(HEAD + "costs:(((((((", 4, 31);
        Check.faulty(HEAD + "costs:(((((()", 2, 31);
        Check.good(HEAD + "costs:if 1=1 then (((((1)))) + 1) else (((((1))))) end;", 2);
    }

    private static void tokenFaults() {
        Check.faulty("Net nodes 1 rate 0;", 1, 0);
        Check.faulty("net\tnodes 1 rate 0;", 1, 3);
        Check.faulty("net nodes 1000 rate 0;", 1, 10);
        Check.faulty("net nodes 10000 rate 0;", 1, 10);
        Check.faulty("net nodes 0001 rate 0;", 1, 10);
        Check.faulty("net 1000", 1, 4);
        Check.faulty("net \u00e9", 1, 4);
        Check.faulty("net \u0000", 1, 4);
        Check.faulty("net nodes 9 \u0000", 3, 10);
        Check.faulty("net nodes net \u0000", 2, 10);
        Check.faulty(HEAD + "link 0 1 long 1 work 1;.", 1, 42);
        Check.faulty(HEAD + "costs:1/1;", 1, 26);
        Check.faulty(HEAD + "costs:1_", 1, 26);
    }

    private static void goodTexts() {
        SpareRings x = Check.good("net nodes008rate09;\n\n link 0 07long 9work02 ;", 2);
        Check.due("nodes", x.count(0), 8);
        Check.due("rate", x.count(2), 9);
        Check.due("the second node", x.link(0, 1), 7);
        Check.due("how long", x.link(0, 2), 9);
        Check.due("work", x.link(0, 3), 2);
        Check.good(HEAD + "costs:1;costs:2;may:1=1;may:1=2;", 5);
        Check.good(HEAD + "costs : ( 999 ) * if rate < 3 or [ work > 1 ] and not to = 0 then long else from - 1 end + 0 ;", 2);
        Check.good(HEAD + "may:links=3andlong>0;".replace("3and", "3 and "), 2);
        Check.good(HEAD + "may:links=3and long>0;", 2);
        byte[] plus = new byte[900];
        Arrays.fill(plus, (byte) '1');
        byte[] start = (HEAD + "costs:").getBytes();
        System.arraycopy(start, 0, plus, 0, start.length);
        for (int i = start.length + 1; i < 899; i += 2) {
            plus[i] = '+';
        }
        plus[898] = ' ';
        plus[899] = ';';
        if (plus[897] == '+') {
            plus[897] = ' ';
        }
        SpareRings y = new SpareRings();
        Check.due("feed of 900", Check.feed(y, plus), 900);
        Check.due("net(900)", y.net(900), 2);
    }
}
