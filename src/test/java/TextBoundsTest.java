/** The bounds of the text, sentence by sentence: how long it grows, and what its tokens may be (promises 1 to 3). */
public final class TextBoundsTest {
    private static final String MAIN = "fun main(){}";
    private static final String SIGNS = "{}()[];,:.=<>+-*/%&@?^";
    private static final String[] WORDS = ("struct union fun dead where var if else while return print region close try catch "
            + "throw int null new cell row nn size is read caught").split(" ");
    private static final int BLANKS = 0x20202020;

    public static void main(String[] args) {
        newObject();
        feedTwenty();
        feedHighestFirst();
        feedBeyond4000();
        endKeeps();
        endRefuses();
        textOf4000();
        characters();
        names();
        words();
        titles();
        regions();
        numbers();
        signs();
        blanks();
        rowsTakenWhole();
        House.finish();
    }

    private static int feedBlanks(PointerHouse x) {
        return x.feed(BLANKS, BLANKS, BLANKS, BLANKS, BLANKS);
    }

    private static PointerHouse fedTo(int n) {
        PointerHouse x = new PointerHouse();
        for (int have = 0; have < n; have += 20) {
            feedBlanks(x);
        }
        x.end(n);
        return x;
    }

    private static void newObject() {
        House.sentence("PointerHouse(): No text, no program.");
        PointerHouse x = new PointerHouse();
        House.due("end(1)", -1, x.end(1));
        House.due("end(0)", 0, x.end(0));
        House.due("program(0)", -1, x.program(0));
        House.due("start(1, 4)", false, x.start(1, 4));
        House.due("state(0)", 0, x.state(0));
        House.due("the first feed", 20, feedBlanks(x));
        PointerHouse y = new PointerHouse();
        House.due("another new object has no text, either", -1, y.end(1));
    }

    private static void feedTwenty() {
        House.sentence("Twenty characters come to the text: how many it has");
        PointerHouse x = new PointerHouse();
        for (int i = 1; i <= 200; i++) {
            House.due("feed " + i, 20 * i, feedBlanks(x));
        }
        House.due("feed behind end(7)", 27, x.end(7) == 7 ? feedBlanks(x) : -2);
        House.due("feed behind end(0)", 20, x.end(0) == 0 ? feedBlanks(x) : -2);
    }

    private static void feedHighestFirst() {
        House.sentence("(the four bytes of a, the highest first, then those of b, ..)");
        for (int at = 0; at < 20; at++) {
            // a $ as the at-th of twenty characters is the first that can't stand
            int[] five = {BLANKS, BLANKS, BLANKS, BLANKS, BLANKS};
            int shift = 24 - 8 * (at % 4);
            five[at / 4] = five[at / 4] & ~(255 << shift) | '$' << shift;
            PointerHouse x = new PointerHouse();
            House.due("feed", 20, x.feed(five[0], five[1], five[2], five[3], five[4]));
            House.due("build", -1, x.build());
            House.due("place of character " + at, at, x.fault(1));
        }
        // bytes from 128 on make the number negative, and are characters all the same
        PointerHouse x = new PointerHouse();
        x.feed(0x20202080, 0xff202020, BLANKS, BLANKS, BLANKS);
        x.build();
        House.due("place of a character 128", 3, x.fault(1));
        x.feed(0x20202020, 0xff202020, BLANKS, BLANKS, BLANKS);
        x.build();
        House.due("place of a character 255", 4, x.fault(1));
        x.feed(BLANKS, BLANKS, BLANKS, BLANKS, 0x202020ff);
        x.build();
        House.due("place of a character 255 at the end", 19, x.fault(1));
    }

    private static void feedBeyond4000() {
        House.sentence("NONE, and none come, if there would be more than 4000.");
        for (int have = 3979; have <= 4000; have++) {
            PointerHouse x = fedTo(have);
            House.due("feed behind " + have, have <= 3980 ? have + 20 : -1, feedBlanks(x));
            x.build();
            House.due("the length behind it", have <= 3980 ? have + 20 : have, x.fault(1));
        }
        PointerHouse x = fedTo(4000);
        for (int i = 0; i < 3; i++) {
            House.due("feed of a full text, again", -1, x.feed(0, 0, 0, 0, 0));
        }
        House.due("it is as long as before", 4000, x.end(4000));
        x.end(3979);
        House.due("feed behind end(3979)", 3999, feedBlanks(x));
        House.due("feed of 3999", -1, feedBlanks(x));
    }

    private static void endKeeps() {
        House.sentence("end: The text keeps its first n characters: n");
        String text = "fun main(){print 1;}$";
        for (int n = 0; n <= text.length(); n++) {
            PointerHouse x = new PointerHouse();
            House.feed(x, text);
            House.due("end(" + n + ")", n, x.end(n));
            House.due("build of the first " + n, n == 20 ? 1 : -1, x.build());
            House.due("end(0) of the empty text behind it", 0, x.end(0));
        }
        PointerHouse x = new PointerHouse();
        House.feed(x, "fun main(){print $$$$$$$");
        House.due("end(17)", 17, x.end(17));
        // twenty more come behind the seventeen
        x.feed('1' << 24 | ';' << 16 | '}' << 8 | ' ', BLANKS, BLANKS, BLANKS, BLANKS);
        House.due("build of both parts", 1, x.build());
    }

    private static void endRefuses() {
        House.sentence("end: NONE if n is not 0 .. as many as it has.");
        int[] wrong = {-1, -2, 13, 14, 20, 4000, Integer.MAX_VALUE, Integer.MIN_VALUE};
        for (int n : wrong) {
            PointerHouse x = new PointerHouse();
            House.feed(x, MAIN);
            House.due("end(" + n + ") of twelve", -1, x.end(n));
            House.due("the text is as it was", 1, x.build());
        }
        PointerHouse x = fedTo(4000);
        House.due("end(4001)", -1, x.end(4001));
        House.due("end(4000)", 4000, x.end(4000));
        House.due("end(0)", 0, x.end(0));
        House.due("end(0) again", 0, x.end(0));
        House.due("end(1) of none", -1, x.end(1));
    }

    private static void textOf4000() {
        House.sentence("THE TEXT has at most 4000 characters");
        String blanks = House.times(4000 - MAIN.length(), " ");
        House.sound(blanks + MAIN);
        House.sound(MAIN + blanks);
        House.fault(1, blanks + "fun main(){#$");
        House.fault(1, blanks + "fun main(){ ");
        String dense = "fun main(){" + House.times(1994, "1;") + "}";
        House.due("length of the dense text", 4000, dense.length());
        PointerHouse x = House.started(dense);
        for (int i = 0; i < 3; i++) {
            House.due("run " + i, 500, x.run(500));
        }
        House.due("the rest", 494, x.run(500));
        House.fault(3, "fun main(){" + House.times(1993, "1;") + "#x;}");
    }

    private static boolean isToken(char c) {
        return c >= '0' && c <= '9' || c >= 'a' && c <= 'z' || c >= 'A' && c <= 'Z' || c == '\'' || SIGNS.indexOf(c) >= 0;
    }

    private static void characters() {
        House.sentence("THE TEXT has characters, 0 .. 255; what is none of these can't stand");
        int others = 0;
        for (char c = 0; c <= 255; c++) {
            PointerHouse x = new PointerHouse();
            String text = "fun main(){" + c + "}";
            House.build(x, text);
            if (c == ' ') {
                House.due("fault(0) with a blank", 0, x.fault(0));
            } else if (!isToken(c)) {
                others++;
                House.due("fault(0) with character " + (int) c, 1, x.fault(0));
                House.due("fault(1) with character " + (int) c, 11, x.fault(1));
                House.build(x, "fun ma" + c + "in(){}");
                House.due("fault(1) with character " + (int) c + " in a NAME", 6, x.fault(1));
            }
        }
        House.due("characters that are none of these", 256 - 1 - 62 - 1 - 22, others);
        // each sign alone can't stand as a STEP, but it is a token: a 1 at it, and behind it in a NAME's place
        for (int i = 0; i < SIGNS.length(); i++) {
            String sign = SIGNS.substring(i, i + 1);
            House.fault(1, "fun main(){var #" + sign + "x:int;}");
        }
    }

    private static void names() {
        House.sentence("NAMES: small letters and digits, a letter first, at most 8");
        for (String name : new String[] {"a", "z", "a0", "z9", "abcdefgh", "a1234567", "zyxwvuts", "aaaaaaaa"}) {
            House.sound("fun main(){var " + name + ":int=1;print " + name + ";}");
            House.sound("fun " + name + "(" + name + ":int){}" + MAIN);
            House.sound("struct A{" + name + ":int;};" + House.main("new'H A{1}." + name + "=2;"));
        }
        for (String name : new String[] {"abcdefghi", "a12345678", "0", "0a", "9abc", "A", "Ab", "aB", "abcdefgH", "aZ", "_a", "'a"}) {
            House.fault(1, "fun main(){var #" + name + ":int;}");
            House.fault(1, "fun #" + name + "(){}" + MAIN);
        }
        House.fault(1, "struct A{#abcdefghi:int;};" + MAIN);
        House.fault(1, "fun f(#abcdefghi:int){}" + MAIN);
        House.fault(1, House.main("#abcdefghi();"));
        House.fault(1, House.main("x.#abcdefghi;"));
        // all eight characters count
        House.fault(3, House.main("var abcdefgh:int=1;print #abcdefgi;"));
        House.fault(3, House.main("var abcdefgh:int=1;print #bbcdefgh;"));
        House.fault(3, House.main("var abcdefgh:int=1;print #abcdefg;"));
        House.fault(3, House.main("var a:int=1;print #aa;"));
    }

    private static void words() {
        House.sentence("NAMES: .. but none of the WORDS");
        House.due("words", 26, WORDS.length);
        for (String word : WORDS) {
            House.fault(1, "fun main(){var #" + word + ":int;}");
            House.fault(1, "fun #" + word + "(){}" + MAIN);
            House.fault(1, "struct A{#" + word + ":int;};" + MAIN);
            House.fault(1, "fun f(#" + word + ":int){}" + MAIN);
            House.fault(1, House.main("x.#" + word + ";"));
            // more or less than a word, a word in a REGION or with a great letter is none
            House.sound("fun main(){var " + word + "1:int;}");
            House.sound("fun main(){var " + word + "x:int;}");
            House.sound("fun main(){var x" + word + ":int;}");
            House.sound("fun main(){var " + word.substring(0, word.length() - 1) + "q:int;}");
            House.sound("fun main(){region '" + word + "{}}");
            House.sound("struct " + word.substring(0, 1).toUpperCase() + word.substring(1) + "{a:int;};" + MAIN);
        }
    }

    private static void titles() {
        House.sentence("TITLES: likewise with a great letter first (then letters of both sizes and digits)");
        for (String title : new String[] {"A", "Z", "A0", "AB", "Ab", "ABCDEFGH", "Abcdefgh", "Z9999999", "H", "Struct"}) {
            House.sound("struct " + title + "{a:int;};" + MAIN);
            House.sound("union " + title + "{a:int;};" + House.main("var x:*'H " + title + "=null;"));
        }
        for (String title : new String[] {"ABCDEFGHI", "Abcdefghi", "Z12345678", "a", "aA", "0A", "9", "'H", "'A"}) {
            House.fault(1, "struct #" + title + "{a:int;};" + MAIN);
            House.fault(1, "union #" + title + "{a:int;};" + MAIN);
            House.fault(1, House.main("new'H #" + title + "{1};"));
        }
        House.fault(1, House.main("var x:@'H #ABCDEFGHI;"));
        House.fault(3, "struct ABCDEFGH{a:int;};" + House.main("new'H #ABCDEFGh{1};"));
        House.fault(3, "struct ABCDEFGH{a:int;};" + House.main("new'H #ABCDEFG{1};"));
    }

    private static void regions() {
        House.sentence("REGIONS: ' and one to eight small letters and digits, a letter first; and 'H.");
        for (String region : new String[] {"'a", "'z", "'a0", "'abcdefgh", "'z1234567", "'h", "'int", "'main"}) {
            House.sound(House.main("region " + region + "{cell" + region + "(1);close " + region + ";}"));
            House.sound("fun f" + region + "(x:@" + region + " int){}" + MAIN);
        }
        for (String region : new String[] {"'", "'0", "'0a", "'9", "'abcdefghi", "'a12345678", "'A", "'aB", "'HH", "'Ha", "'H1", "'G", "'I",
            "a", "H"}) {
            House.fault(1, House.main("region #" + region + "{}"));
            House.fault(1, "fun f(x:@#" + region + " int){}" + MAIN);
            House.fault(1, House.main("cell #" + region + "(1);"));
        }
        House.sound(House.main("cell'H(1);"));
        House.fault(3, House.main("cell#'h(1);"));
        House.fault(3, House.main("region 'abcdefgh{cell#'abcdefgi(1);}"));
        House.fault(3, House.main("region 'abcdefgh{cell#'abcdefg(1);}"));
    }

    private static void numbers() {
        House.sentence("NUMBERS: one to nine digits.");
        House.prints(House.main("print 0;print 9;print 10;print 123456789;print 999999999;print 000000000;print 000000007;print 012;"),
                2, 0, 9, 10, 123456789, 999999999, 0, 7, 12);
        for (String number : new String[] {"0000000000", "1000000000", "1234567890", "0000000001", "99999999999999999999", "1a", "1A",
            "12345678a", "0x1"}) {
            House.fault(1, House.main("print #" + number + ";"));
        }
        House.fault(1, House.main("print 1 #2;"));
        House.fault(1, House.main("print 999999999#'a;"));
    }

    private static void signs() {
        House.sentence("SIGNS: .. (of several the longest)");
        House.prints(House.main("var x:int=1;x=x==1;print x;x=2==x;print x;print(1==1)==(1==1);"), 2, 1, 0, 1);
        House.fault(1, House.main("var x:int=1;x=1==#=;"));
        House.fault(1, House.main("print 1==#=1;"));
        House.fault(1, House.main("print 1==#==1;"));
        House.fault(1, House.main("print 1#= =1;"));
        House.fault(1, House.main("var x:int#==1;"));
        House.fault(4, House.main("var x:int=1;#x==1=1;"));
        House.fault(1, House.main("print 1<#<2;"));
        House.fault(1, House.main("print 1<#=2;"));
        House.fault(1, House.main("print 1#>2;"));
        House.fault(1, House.main("print 1#!=2;"));
    }

    private static void blanks() {
        House.sentence("Blanks (32) may stand between all these.");
        String[] parts = {"struct", "A", "'r", "{", "v", ":", "int", ";", "n", ":", "*", "'r", "A", "'r", ";", "}", ";", "fun", "f", "'a", "'b",
            "(", "x", ":", "@", "'a", "int", ",", "y", ":", "?", "'b", "*", "'b", "A", "'b", ")", ":", "int", "dead", "'a", "'b", "where", "'a",
            ">", "'b", ",", "'b", ">", "'a", "{", "return", "size", "(", "y", "+", "1", ")", "==", "2", ";", "}", "fun", "main", "(", ")", "{",
            "print", "1", "+", "2", ";", "}"};
        House.sound(String.join(" ", parts));
        House.sound("   " + String.join("     ", parts) + "    ");
        // between two rows one must stand, elsewhere none need
        StringBuilder close = new StringBuilder();
        for (String part : parts) {
            boolean rows = close.length() > 0 && Character.isLetterOrDigit(close.charAt(close.length() - 1))
                    && Character.isLetterOrDigit(part.charAt(0));
            close.append(rows ? " " : "").append(part);
        }
        House.sound(close.toString());
        House.fault(1, "fun ma #in(){}");
        House.fault(1, "fun main(){print 1 #0;}");
        House.fault(1, "fun main(){region #' a{}}");
        House.fault(1, "fun main(){region 'a #b{}}");
        House.fault(1, "fun main(){pri #nt 1;}");
        for (char c : new char[] {0, 9, 10, 13, 31, 33, 160}) {
            PointerHouse x = new PointerHouse();
            House.build(x, "fun main(){" + c + "}");
            House.due("place of the character " + (int) c + " between two tokens", 11, x.fault(1));
        }
    }

    private static void rowsTakenWhole() {
        House.sentence("A row of letters and digits (with a ' ahead of it) is taken whole");
        House.fault(1, House.main("var #1x:int;"));
        House.fault(1, "#funmain(){}");
        House.fault(1, House.main("varx#:int;"));
        House.fault(3, House.main("#print1;"));
        House.fault(1, House.main("if1#{}"));
        House.fault(1, House.main("print #1is;"));
        House.fault(1, House.main("print #0and0;"));
        House.fault(1, House.main("print #abcdefgh1;"));
        House.fault(1, House.main("print #abcdefghprint;"));
        House.fault(1, House.main("print #'abcdefgh1;"));
        House.fault(1, House.main("region #'abcdefghH{}"));
        House.fault(1, House.main("region #''a{}"));
        House.fault(1, House.main("region 'a#'b{}"));
        House.sound("fun f'a'b(){}" + House.main("f'H'H();region'a{f'a'H();}"));
    }
}
