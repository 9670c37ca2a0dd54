/** The FAULTS sentence by sentence: which is first, where it is, and those of the heads (promises 4 and 5). */
public final class FaultBoundsTest {
    private static final String MAIN = "fun main(){}";

    public static void main(String[] args) {
        buildCounts();
        buildEmptiesTheText();
        buildEndsWhatRuns();
        faultOfTheLatest();
        firstOnes();
        placesOfSteps();
        parentheses();
        tokensThatCantStand();
        missingAtTheEnd();
        thereAlready();
        firstOneCounts();
        notThere();
        anotherNumber();
        headsInOrder();
        typesFromTheLeft();
        deadAndWhere();
        mainIsThere();
        House.finish();
    }

    private static void buildCounts() {
        House.sentence("build: .. how many structs, unions and funs it has; NONE if it has a FAULT (then there is no program)");
        PointerHouse x = new PointerHouse();
        House.due("one fun", 1, House.build(x, MAIN));
        House.due("a struct and a fun", 2, House.build(x, "struct A{a:int;};" + MAIN));
        House.due("a struct, a union and two funs", 4, House.build(x, "struct A{a:int;};fun f(){}union U{a:int;};" + MAIN));
        House.due("the program of the four", 2, x.program(0));
        for (String text : new String[] {"", "fun", "fun f(){}", "fun main(){x;}", "fun main(){var x:int;x;}", "struct A{a:B;};" + MAIN}) {
            House.due("build of " + text, -1, House.build(x, text));
            House.due("a program behind it", -1, x.program(0));
            House.due("start behind it", false, x.start(1, 4));
            House.due("build of main", 1, House.build(x, MAIN));
            House.due("start behind that", true, x.start(1, 4));
        }
    }

    private static void buildEmptiesTheText() {
        House.sentence("build: The text (which is empty then)");
        PointerHouse x = new PointerHouse();
        House.build(x, MAIN);
        House.due("end(1) behind a build", -1, x.end(1));
        House.build(x, "fun main(){$}");
        House.due("end(1) behind a build with a FAULT", -1, x.end(1));
        House.due("the next build is one of no text", -1, x.build());
        House.due("its FAULT", 1, x.fault(0));
        House.due("its place", 0, x.fault(1));
    }

    private static void buildEndsWhatRuns() {
        House.sentence("build: Nothing runs then, in any case.");
        for (String next : new String[] {MAIN, "fun main(){$}", ""}) {
            for (int run = 0; run <= 2; run++) {
                PointerHouse x = House.started(House.main("print 1;print 2;"));
                if (run > 0) {
                    x.run(run);
                }
                House.due("STATE ahead of build", run == 2 ? 2 : 1, x.state(0));
                House.build(x, next);
                House.due("STATE behind build of " + next, 0, x.state(0));
                House.due("state(2)", -1, x.state(2));
                House.due("run", -1, x.run(1));
                House.due("input", -1, x.input(1));
                House.due("printed(0)", 0, x.printed(0));
                House.due("world(0)", 0, x.world(0));
                House.due("region(0, 0)", -1, x.region(0, 0));
            }
        }
    }

    private static void faultOfTheLatest() {
        House.sentence("fault: Of the latest build(): the FAULT (what 0; 0 without one), its place (1; NONE without). NONE for another what, or before any.");
        PointerHouse x = new PointerHouse();
        for (int what = -2; what <= 3; what++) {
            House.due("fault(" + what + ") before any build", -1, x.fault(what));
        }
        House.feed(x, "fun main(){x;}");
        House.due("fault(0) before a build of the text", -1, x.fault(0));
        x.build();
        House.due("fault(0)", 3, x.fault(0));
        House.due("fault(1)", 11, x.fault(1));
        House.feed(x, MAIN);
        House.due("a new text changes nothing", 3, x.fault(0));
        x.build();
        House.due("fault(0) without one", 0, x.fault(0));
        House.due("fault(1) without one", -1, x.fault(1));
        x.start(1, 4);
        House.due("fault(0) behind start", 0, x.fault(0));
        x.build();
        House.due("fault(0) of the empty text", 1, x.fault(0));
        House.due("fault(1) of the empty text", 0, x.fault(1));
        for (int what : new int[] {-1, 2, 3, Integer.MIN_VALUE, Integer.MAX_VALUE}) {
            House.due("fault(" + what + ")", -1, x.fault(what));
        }
    }

    private static void firstOnes() {
        House.sentence("First the first 1; then of the heads .. in the order of the text, then of the BLOCKS likewise, the first that is met.");
        String head = "struct A{a:@'z int;};";
        String block = "fun f(){print x;}";
        House.fault(3, block + "struct A{a:@#'z int;};" + MAIN);
        House.fault(3, "fun f(){print #x;}" + MAIN);
        House.fault(3, "fun f(){print #x;print y;}fun g(){return 1;}" + MAIN);
        House.fault(8, "fun g(){#return 1;}" + block + MAIN);
        House.fault(1, head + block + MAIN + "#;");
        House.fault(1, head + block + "fun main(){#$}");
        House.fault(1, head + block + "fun main(){1#}$");
        House.fault(3, "struct A{a:@#'z int;};struct B{a:@'H C;};" + MAIN);
        House.fault(3, "struct B{a:@'H #C;};struct A{a:@'z int;};" + MAIN);
        // the head's 8 comes behind all heads and ahead of all BLOCKS
        House.fault(8, block);
        House.fault(3, block + "fun g(x:@#'z int){}");
        // in a BLOCK: what is done first is met first
        House.fault(4, House.main("var a:int=1;a=#null;print x;"));
        House.fault(3, House.main("print #x+y;"));
    }

    private static void placesOfSteps() {
        House.sentence("Places are characters, from 0; a STEP's is its first character (a ( , too)");
        PointerHouse x = House.started("fun main(){(1);}");
        House.due("state(2)", 11, x.state(2));
        x = House.started("fun main(){  ((1))+2;}");
        House.due("state(2) behind blanks", 13, x.state(2));
        x = House.started("fun main(){var a:int; (a)=1;  while a{ return ; } }");
        House.due("state(2) at var", 11, x.state(2));
        x.run(1);
        House.due("state(2) at (a)=1", 22, x.state(2));
        x.run(1);
        House.due("state(2) at while", 30, x.state(2));
        x.run(1);
        House.due("state(2) at return", 39, x.state(2));
        x = House.ran("fun main(){ ((1/0)); }", 1, 4);
        House.due("state(2) of a STEP that failed", 12, x.state(2));
        House.fault(8, "fun main(){  #return (1);}");
    }

    private static void parentheses() {
        House.sentence("an EXPR's is where it begins. ( ) around an EXPR are as if they were not there (it begins behind the parenthesis)");
        House.fault(4, House.main("print #null;"));
        House.fault(4, House.main("print (#null);"));
        House.fault(4, House.main("print ( ( #null ) );"));
        House.fault(4, House.main("print (#null)+1;"));
        House.fault(4, House.main("print 1+(#null);"));
        House.fault(4, House.main("print 1+((#null)==1);"));
        House.fault(4, House.main("print (1+2)+((#null));"));
        House.fault(4, House.main("(#1).a;"));
        House.fault(4, House.main("((#1)+2).a;"));
        House.fault(4, House.main("(#1)^;"));
        House.fault(4, House.main("(#1)[0];"));
        House.fault(4, House.main("row'H(1,1)[(#null)];"));
        House.fault(4, House.main("var x:int=(#null);"));
        House.fault(4, House.main("if (#null){}"));
        House.fault(4, House.main("while (#null){}"));
        House.fault(4, House.main("nn((#1));"));
        House.fault(4, House.main("size((#1));"));
        House.fault(4, House.main("cell'H((#null));"));
        House.fault(4, House.main("(#1)=2;"));
        House.fault(4, House.main("((#1)+2)=2;"));
        House.fault(4, House.main("&(#1);"));
        House.fault(4, House.main("&((#1)+2);"));
        House.fault(6, House.main("var x:int;print ((#x));"));
        House.fault(8, House.main("print (#caught);"));
        String a = "struct A{a:int;};";
        // what has a place, or is a NAME, or NAME == null, is so in parentheses, too
        House.sound(a + House.main("var x:int;(x)=1;((x))=2;"));
        House.sound(a + House.main("(new'H A{1}.a)=1;((new'H A{1})).a=2;(row'H(1,1)[0])=1;((cell'H(1))^)=2;"));
        House.sound(a + House.main("var p:@'H int=&(new'H A{1}.a);p=&((row'H(1,1)[0]));"));
        String p = "var p:*'H int=null;var q:@'H int=cell'H(1);";
        House.sound(House.main(p + "if (p){q=p;}if ((p)==(null)){}else{q=p;}if (p==(null)){return;}q=p;"));
        House.sound(House.main(p + "while ((p)){q=p;}while ((p)==null){}q=p;"));
        House.fault(4, House.main(p + "if (#p)+0{}"));
        // but for the depth
        House.sound(House.main(House.times(18, "(") + "1" + House.times(18, ")") + ";"));
        House.fault(1, House.main(House.times(19, "(") + "#1" + House.times(19, ")") + ";"));
    }

    private static void tokensThatCantStand() {
        House.sentence("1: the first character of a token that can't stand there .. or is none");
        House.fault(1, "fun main(){var #while:int;}");
        House.fault(1, "fun main(){print 1 #abcdefgh;}");
        House.fault(1, "fun main(){print 1 #123456789;}");
        House.fault(1, "fun main(){print 1 #'abcdefgh;}");
        House.fault(1, "fun main(){print 1 #1234567890123;}");
        House.fault(1, "fun main(){print 1#\"a\";}");
        House.fault(1, "fun main(){if 1==1==#{}}");
        House.fault(1, "#$");
        House.fault(1, " #$");
        House.fault(1, "#main");
        House.fault(1, "#Fun main(){}");
    }

    /** Each text that is cut behind a token lacks something at its end, unless the program is whole. */
    private static void missingAtTheEnd() {
        House.sentence("the text's length, if something is missing at its end");
        String[] tokens = ("struct T 'r { a : int ; b : * 'r T 'r ; } ; union U { i : ? 'H int ; } ; fun f 'a 'b ( x : int , y : @ 'a int ) : int "
                + "dead 'a 'b where 'a > 'b , 'b > 'a { var z : int = 1 ; z = ( z + 2 ) * 3 ; if z { print z ; } else { throw z ; } while z == 0 { } "
                + "region 'c { close 'c ; } try { } catch { print caught ; } f 'H 'H ( 1 , cell 'H ( 2 ) ) ; new 'H T 'H { 1 , null } . a = 2 ; "
                + "new 'H U . i ( row 'H ( 1 , 2 ) ) is i ; & new 'H T 'H { 1 , null } . a ; nn ( cell 'H ( 1 ) ) ^ ; size ( row 'H ( 1 , 2 ) + 1 ) ; "
                + "return read ; } fun main ( ) { }").split(" ");
        StringBuilder text = new StringBuilder();
        int braces = 0;
        for (int i = 0; i < tokens.length; i++) {
            text.append(i == 0 ? "" : " ").append(tokens[i]);
            braces += tokens[i].equals("{") ? 1 : tokens[i].equals("}") ? -1 : 0;
            boolean last = i == tokens.length - 1;
            boolean whole = braces == 0 && (tokens[i].equals(";") || tokens[i].equals("}") && (last || tokens[i + 1].equals("fun")));
            PointerHouse x = new PointerHouse();
            House.build(x, text.toString());
            // of structs and unions alone, main is missing: 8 at the same place
            House.due("fault(0) of the first " + (i + 1) + " tokens", last ? 0 : whole ? 8 : 1, x.fault(0));
            House.due("fault(1) of the first " + (i + 1) + " tokens", last ? -1 : text.length(), x.fault(1));
            House.build(x, text + "   ");
            House.due("fault(1) of them and three blanks", last ? -1 : text.length() + 3, x.fault(1));
        }
    }

    private static void thereAlready() {
        House.sentence("2: what is there already: a TITLE, a fun's NAME, a REGION of RS or behind dead, a field, a parameter (at the later one)");
        House.fault(2, "struct A{a:int;};union #A{a:int;};" + MAIN);
        House.fault(2, "union A{a:int;};struct B{a:int;};struct #A{a:int;};" + MAIN);
        House.sound("struct A{a:int;};union B{a:int;};" + MAIN);
        House.fault(2, "fun f(){}fun g(){}fun #f'a(x:int){}" + MAIN);
        House.fault(2, MAIN + "fun #main(){}");
        House.fault(2, "struct A'a#'a{a:int;};" + MAIN);
        House.fault(2, "struct A'a'b#'a{a:int;};" + MAIN);
        House.fault(2, "union A'a'b#'b{a:int;};" + MAIN);
        House.fault(2, "fun f'a#'a'a(){}" + MAIN);
        House.fault(2, "fun f'a'b() dead 'b#'b{}" + MAIN);
        House.fault(2, "fun f'a'b() dead 'a'b#'a{}" + MAIN);
        House.fault(2, "struct A{a:int;#a:int;};" + MAIN);
        House.fault(2, "union A{a:int;b:int;c:int;d:int;e:int;f:int;g:int;#a:int;};" + MAIN);
        House.fault(2, "fun f(a:int,b:int,#b:int){}" + MAIN);
        House.fault(2, "fun f(a:int,b:int,c:int,d:int,e:int,#a:int){}" + MAIN);
        // the same in another place is none
        House.sound("struct A'a{a:int;};union B'a{a:int;};fun a'a(a:int) dead 'a where 'a>'a,'a>'a{}fun b'a(a:int){}" + MAIN);
        // 'H can't be one
        House.fault(2, "struct A#'H{a:int;};" + MAIN);
        House.fault(2, "union A'a#'H{a:int;};" + MAIN);
        House.fault(2, "fun f'a'b#'H(){}" + MAIN);
        House.sound("fun f'h(){}" + MAIN);
    }

    private static void firstOneCounts() {
        House.sentence("(at the later one; the first counts in all of this)");
        // the first A has one REGION, so that a CELL ahead of both must have one
        House.fault(7, "fun f(x:@'H #A){}struct A'r{a:int;};struct A{a:int;};" + MAIN);
        House.fault(2, "fun f(x:@'H A'H){}struct A'r{a:int;};struct #A{a:int;};" + MAIN);
    }

    private static void notThere() {
        House.sentence("3: a REGION, TITLE, NAME, fun, field that isn't there or can't be seen, at it.");
        House.fault(3, "fun f'a(x:@#'b int){}" + MAIN);
        House.fault(3, "struct A{a:@'H #B;};" + MAIN);
        House.fault(3, House.main("#a;"));
        House.fault(3, House.main("#a();"));
        House.fault(3, "fun f(a:int){#a();}" + MAIN);
        House.fault(3, "fun f(){}" + House.main("#f;"));
        House.fault(3, "struct A{a:int;};" + House.main("new'H A{1}.#b;"));
        House.fault(3, "struct A{a:int;};struct B{b:int;};" + House.main("new'H A{1}.#b;"));
        House.fault(3, "union A{a:int;};" + House.main("new'H A.#b(1);"));
        // RS, parameters and vars of another fun can't be seen
        House.fault(3, "fun f'a(a:int){var b:int=1;}fun g(x:@#'a int){}" + MAIN);
        House.fault(3, "fun f'a(a:int){var b:int=1;}fun g(){#a;}" + MAIN);
        House.fault(3, "fun f'a(a:int){var b:int=1;}fun g(){#b;}" + MAIN);
        House.fault(3, "struct A'a{a:@'a int;};struct B{a:@#'a int;};" + MAIN);
        // funs and TITLES are there wherever they stand
        House.sound("fun main(){g();new'H A{1};}fun g(){}struct A{a:int;};");
    }

    private static void anotherNumber() {
        House.sentence("7: at a TITLE or a fun's NAME with another number of REGIONS, or ARGUMENTS, than told, or a { or . that is not its kind's.");
        String[] rs = {"", "'H", "'H'H", "'H'H'H"};
        String[] told = {"", "'a", "'a'b", "'a'b'c"};
        for (int have = 0; have <= 3; have++) {
            for (int want = 0; want <= 3; want++) {
                String heads = "struct T" + told[want] + "{a:int;};fun f" + told[want] + "(){}";
                if (have == want) {
                    House.sound(heads + House.main("f" + rs[have] + "();new'H T" + rs[have] + "{1};var x:*'H T" + rs[have] + "=null;"));
                } else {
                    House.fault(7, heads + House.main("#f" + rs[have] + "();"));
                    House.fault(7, heads + House.main("new'H #T" + rs[have] + "{1};"));
                    House.fault(7, heads + House.main("var x:*'H #T" + rs[have] + "=null;"));
                    House.fault(7, heads + "fun g(x:@'H #T" + rs[have] + "){}" + MAIN);
                    House.fault(7, "struct S{a:@'H #T" + rs[have] + ";};" + heads + MAIN);
                }
            }
        }
        argumentsTold();
    }

    private static void argumentsTold() {
        String[] parameters = {"", "a:int", "a:int,b:int", "a:int,b:int,c:int", "a:int,b:int,c:int,d:int", "a:int,b:int,c:int,d:int,e:int",
            "a:int,b:int,c:int,d:int,e:int,g:int"};
        String[] numbers = {"", "1", "1,2", "1,2,3", "1,2,3,4", "1,2,3,4,5", "1,2,3,4,5,6", "1,2,3,4,5,6,7", "1,2,3,4,5,6,7,8"};
        for (int want = 0; want <= 6; want++) {
            String fun = "fun f(" + parameters[want] + "){}";
            for (int have = 0; have <= 8; have++) {
                if (have == want) {
                    House.sound(fun + House.main("f(" + numbers[have] + ");"));
                } else {
                    House.fault(7, fun + House.main("#f(" + numbers[have] + ");"));
                }
            }
        }
        for (int want = 1; want <= 8; want++) {
            StringBuilder fields = new StringBuilder();
            for (int k = 0; k < want; k++) {
                fields.append((char) ('a' + k)).append(":int;");
            }
            for (int have = 0; have <= 8; have++) {
                String text = "struct T{" + fields + "};" + House.main("new'H #T{" + numbers[have] + "};");
                if (have == want) {
                    House.sound(text.replace("#", ""));
                } else {
                    House.fault(7, text);
                }
            }
        }
        String kinds = "struct S{a:int;};union U{a:int;};";
        House.sound(kinds + House.main("new'H S{1};new'H U.a(1);"));
        House.fault(7, kinds + House.main("new'H S#.a(1);"));
        House.fault(7, kinds + House.main("new'H U#{1};"));
        House.fault(7, kinds + House.main("new'H U #{};"));
    }

    private static void headsInOrder() {
        House.sentence("HEADS: the TITLE or NAME (2); its RS; each field or parameter: its NAME (2), its TYPE; the TYPE; behind dead ..; behind where ..");
        // each FAULT is ahead of all that stand behind it; from left to right they are taken away
        String two = "fun f(){}";
        House.fault(2, two + "fun #f'a'a(x:@'z int,x:int):@'z int dead 'z where 'z>'z{}" + MAIN);
        House.fault(2, two + "fun g'a#'a(x:@'z int,x:int):@'z int dead 'z where 'z>'z{}" + MAIN);
        House.fault(3, two + "fun g'a(x:@#'z int,x:int):@'z int dead 'z where 'z>'z{}" + MAIN);
        House.fault(2, two + "fun g'a(x:int,#x:@'z int):@'z int dead 'z where 'z>'z{}" + MAIN);
        House.fault(3, two + "fun g'a(x:int,y:@#'z int):@'z int dead 'z where 'z>'z{}" + MAIN);
        House.fault(3, two + "fun g'a(x:int):@#'z int dead 'z where 'z>'z{}" + MAIN);
        House.fault(3, two + "fun g'a(x:int):@'a int dead #'z where 'z>'z{}" + MAIN);
        House.fault(3, two + "fun g'a(x:int):@'a int dead 'a where #'z>'z{}" + MAIN);
        House.fault(3, two + "fun g'a(x:int):@'a int dead 'a where 'a>#'z{}" + MAIN);
        House.fault(8, two + "fun g'a(x:int):@'a int dead 'a where 'a>'a{#}" + MAIN);
        String one = "struct A{a:int;};";
        House.fault(2, one + "union #A'a'a{x:@'z int;x:int;};" + MAIN);
        House.fault(2, one + "union B'a#'a{x:@'z int;x:int;};" + MAIN);
        House.fault(3, one + "union B'a{x:@#'z int;x:int;};" + MAIN);
        House.fault(2, one + "union B'a{x:int;#x:@'z int;};" + MAIN);
    }

    private static void typesFromTheLeft() {
        House.sentence("A TYPE, from the left: a REGION: 3 if it is not 'H, nor one that can be seen; a TITLE: 3; 7; its REGIONS.");
        String t = "struct T'x'y{a:int;};";
        for (String sign : new String[] {"@", "*"}) {
            House.fault(3, t + "fun f'a(x:" + sign + "#'z T'u){}" + MAIN);
            House.fault(3, t + "fun f'a(x:" + sign + "'a #S'u){}" + MAIN);
            House.fault(7, t + "fun f'a(x:" + sign + "'a #T'u){}" + MAIN);
            House.fault(3, t + "fun f'a(x:" + sign + "'a T#'u'v){}" + MAIN);
            House.fault(3, t + "fun f'a(x:" + sign + "'a T'a#'v){}" + MAIN);
            House.sound(t + "fun f'a(x:" + sign + "'a T'a'H){}" + MAIN);
        }
        House.fault(3, t + "fun f'a(x:?'a ?#'u ?'v int){}" + MAIN);
        House.fault(3, t + "fun f'a(x:?'a ?'H ?#'v int){}" + MAIN);
        House.sound(t + "fun f'a(x:?'a ?'H ?'a int){}" + MAIN);
        // in BLOCKS those of the region STEPS around can be seen, too
        House.sound(t + House.main("region 'u{var x:@'u ?'H *'u T'u'H;}"));
        House.fault(3, t + House.main("region 'u{}var x:@#'u int;"));
        House.fault(3, t + House.main("region 'u{region 'v{}var x:@'u @#'v int;}"));
        House.fault(7, t + House.main("region 'u{var x:*'u #T'u'v'w;}"));
    }

    private static void deadAndWhere() {
        House.sentence("behind dead each REGION (3 if it is none of its RS, then 2), behind where each REGION (3 likewise)");
        House.fault(3, "fun f() dead #'a{}" + MAIN);
        House.fault(3, "fun f'a() dead #'H{}" + MAIN);
        House.fault(3, "fun f'a() dead 'a#'b'a{}" + MAIN);
        House.fault(2, "fun f'a() dead 'a#'a'b{}" + MAIN);
        House.fault(3, "fun f'a() dead #'b'b{}" + MAIN);
        House.sound("fun f'a'b'c() dead 'c'a'b{}" + MAIN);
        House.fault(3, "fun f() where #'a>'a{}" + MAIN);
        House.fault(3, "fun f'a() where #'H>'a{}" + MAIN);
        House.fault(3, "fun f'a() where 'a>#'H{}" + MAIN);
        House.fault(3, "fun f'a() where 'a>'a,#'b>'a{}" + MAIN);
        House.fault(3, "fun f'a() where 'a>'a,'a>'a,'a>#'b{}" + MAIN);
        // there is no 2 behind where
        House.sound("fun f'a'b() where 'a>'b,'a>'b,'b>'b{}" + MAIN);
    }

    private static void mainIsThere() {
        House.sentence("Behind all heads 8 at the text's length, if there is no fun main without RS, PARAMETERS and TYPE.");
        House.sound(MAIN);
        House.sound(MAIN + "fun f(){}");
        House.fault(8, "fun f(){}");
        House.fault(8, "struct A{a:int;};");
        House.fault(8, "struct A{a:int;};   ");
        House.fault(8, "fun mains(){}fun mai(){}");
        House.fault(8, "fun main'a(){}");
        House.fault(8, "fun main(a:int){}");
        House.fault(8, "fun main():int{return 1;} ");
        House.fault(2, "fun main'a(){}fun #main(){}");
        House.fault(8, "fun main(a:int){print x;}fun f(){}");
        House.fault(3, "fun main(a:@#'z int){}");
    }
}
