/** All that has a bound, filled up to it and used there: items, vars, regions, depths, TYPES, long runs, build behind build. */
public final class FullBoundsTest {
    private static final String MAIN = "fun main(){}";
    private static final int DONE = 2;

    public static void main(String[] args) {
        mostTokens();
        cutTokens();
        fullItems();
        threeRegions();
        allTitles();
        deepTypes();
        manyTypes();
        typesStay();
        twentyVars();
        twentyRows();
        varsOver();
        eightRegions();
        eightRegionsTold();
        eightRegionsLive();
        deepExprs();
        deepBlocks();
        namesGivenDeep();
        triesAndRegions();
        longRuns();
        whereThroughEach();
        buildBehindBuild();
        denseBuilds();
        House.finish();
    }

    private static String nested(int n, String before, String after, String inner) {
        return House.times(n, before) + inner + House.times(n, after);
    }

    private static void mostTokens() {
        House.sentence("THE TEXT has at most 4000 characters (each a token of its own)");
        for (String sign : new String[] {"{", ";", "(", "=", "$", "'", "^", "7 ", "a "}) {
            PointerHouse x = new PointerHouse();
            House.build(x, House.times(4000 / sign.length(), sign));
            House.due("fault(0) of 4000 " + sign, 1, x.fault(0));
            House.due("fault(1) of 4000 " + sign, 0, x.fault(1));
        }
        House.fault(1, "fun main(){" + House.times(18, "(") + "x" + House.times(3969, "^"));
        House.fault(3, "fun main(){#x" + House.times(3986, "^") + ";}");
        House.fault(1, "fun main(){&x" + House.times(3987, "^"));
        House.fault(3, "fun main(){1" + House.times(1992, "+1") + "+#x;}");
    }

    private static void cutTokens() {
        House.sentence("end: The text keeps its first n characters (what stood behind them is nothing any more)");
        // where the cut is, and the place of the FAULT 1 then
        String[] texts = {"fun main(){var x:int=|=1;}", "fun main(){print 1=|=1;}", "fun main(){region '|a{}}", "fun main(){print 12|3;}", "fun ma|in(){}",
            "fun main(){region 'a|b{}}", "struct A|b{a:int;};", "fun main(){pri|nt 1;}", "fun main(){print 123456789|0;}", "fun main(){region '|H{}}"};
        int[] places = {21, 18, 18, 19, 6, 20, 8, 14, 26, 18};
        for (int i = 0; i < texts.length; i++) {
            int cut = texts[i].indexOf('|');
            PointerHouse x = new PointerHouse();
            House.feed(x, texts[i].replace("|", ""));
            House.due("end(" + cut + ")", cut, x.end(cut));
            House.due("build of " + texts[i], -1, x.build());
            House.due("fault(0) of " + texts[i], 1, x.fault(0));
            House.due("fault(1) of " + texts[i], places[i], x.fault(1));
        }
        PointerHouse x = new PointerHouse();
        House.feed(x, "fun main(){}0000000000");
        x.end(12);
        House.due("build of what is left", 1, x.build());
        House.feed(x, "fun main(){print 7777777777;}");
        x.end(19);
        x.feed(';' << 24 | '}' << 16 | 0x2020, 0x20202020, 0x20202020, 0x20202020, 0x20202020);
        House.due("build of both parts", 1, x.build());
        x.start(1, 4);
        x.run(1);
        House.due("printed(0)", 77, x.printed(0));
    }

    private static void fullItems() {
        House.sentence("PROGRAM: 1 to 24 of .. (each with all that it may have)");
        StringBuilder funs = new StringBuilder();
        String head = "'a'b'c(p:int,q:int,r:int,s:int,t:int,u:@'a int):@'c int dead 'c'b'a where 'a>'b,'b>'c,'a>'c{return u;}";
        for (int i = 0; i < 23; i++) {
            funs.append("fun f").append(i).append(head);
        }
        PointerHouse x = House.sound(funs + House.main("print f22'H'H'H(1,2,3,4,5,cell'H(6))^;print f0'H'H'H(1,2,3,4,5,cell'H(7))^;"));
        House.due("funs", 24, x.program(1));
        x.start(4, 4);
        x.run(500);
        House.due("printed(0)", 6, x.printed(0));
        House.due("printed(1)", 7, x.printed(1));
        // what the last one's dead and where say counts
        String last = "fun f22'a'b'c(p:int,q:int,r:int,s:int,t:int,u:@'a int):@'c int dead 'c'b'a where 'a>'b,'b>'c,'a>'c{return u;}";
        House.fault(5, funs + House.main("region 'x{f22#'x'H'H(1,2,3,4,5,cell'H(6));}"));
        House.fault(5, funs + House.main("region 'x{f22'H#'x'H(1,2,3,4,5,cell'H(6));}"));
        House.fault(5, funs.toString().replace(last, last.replace(",'b>'c,'a>'c", ",'b>'b,'c>'c").replace("return u", "return #u")) + MAIN);
        House.fault(5, funs.toString().replace(last, last.replace(" dead 'c'b'a", " dead 'b").replace("return u", "cell#'b(1);return u")) + MAIN);
        StringBuilder structs = new StringBuilder();
        for (int i = 0; i < 23; i++) {
            structs.append(i % 2 == 0 ? "struct" : "union").append(" T").append(i).append("{a:int;b:int;c:int;d:int;e:int;f:int;g:int;h:?'H int;};");
        }
        x = House.ran(structs + House.main("print size(new'H T22{1,2,3,4,5,6,7,row'H(0,1)}.h);print new'H T21.g(8).g;print new'H T21.h(row'H(0,1)) is h;"),
                4, 16);
        House.due("state(0)", DONE, x.state(0));
        House.due("printed(1)", 8, x.printed(1));
        House.due("printed(2)", 1, x.printed(2));
        House.due("WORDS", 10 + 4 + 4, x.region(0, 1));
    }

    private static void threeRegions() {
        House.sentence("the field's TYPE, with the TITLE's REGIONS for its RS (of three, in any order)");
        String heads = "struct P'a'b'c{x:*'a int;y:?'b int;z:@'c int;s:*'b P'c'a'b;t:*'H P'a'a'a;};union Q'a'b'c{p:@'b P'c'b'a;q:*'c Q'b'c'a;};";
        String open = "region 'u{region 'v{region 'w{var c:@'u int=cell'u(1);var d:@'v int=cell'v(2);var e:@'w int=cell'w(3);"
                + "var p:@'w P'u'v'w=new'w P'u'v'w{c,row'v(1,4),e,null,null};";
        String close = "}}}";
        House.sound(heads + House.main(open + "p.x=c;p.y=row'u(1,1);p.z=d;p.s=new'v P'w'u'v{e,row'u(1,1),d,null,null};p.t=new'H P'u'u'u{null,row'u(1,1),c,null,null};" + close));
        House.fault(5, heads + House.main(open + "p.x=#d;" + close));
        House.fault(5, heads + House.main(open + "p.y=#row'w(1,1);" + close));
        House.sound(heads + House.main(open + "p.z=e;p.z=c;" + close));
        House.fault(4, heads + House.main(open + "p.s=#new'v P'w'v'u{null,row'v(1,1),c,null,null};" + close));
        House.fault(5, heads + House.main(open + "p.s=#new'w P'w'u'v{null,row'u(1,1),c,null,null};" + close));
        House.fault(4, heads + House.main(open + "p.t=#new'H P'u'u'v{null,row'u(1,1),c,null,null};" + close));
        // P'u'v'w .s is P'w'u'v, its .s is P'v'w'u, and that one's P'u'v'w again
        House.sound(heads + House.main(open + "p.s.s.s=p.s.s.s.s.s.s;p.s.s.y=row'w(1,1);p.s.s.s.s=p.s;" + close));
        House.fault(4, heads + House.main(open + "p.s.s=#p.s;" + close));
        House.fault(5, heads + House.main(open + "p.s.y=#row'v(1,1);" + close));
        String q = open + "var q:@'w Q'u'v'w=new'w Q'u'v'w.q(null);";
        House.sound(heads + House.main(q + "q.p=new'v P'w'v'u{e,row'v(1,1),c,null,null};q.q=new'w Q'v'w'u.q(null);q.q.p=new'w P'u'w'v{c,row'w(1,1),d,null,null};" + close));
        House.fault(4, heads + House.main(q + "q.p=#new'v P'w'u'v{e,row'u(1,1),d,null,null};" + close));
        House.fault(5, heads + House.main(q + "q.p=#new'w P'w'v'u{e,row'v(1,1),c,null,null};" + close));
        House.fault(4, heads + House.main(q + "q.q.q=#q;" + close));
        House.sound(heads + House.main(q + "q.q.q.q=new'v Q'u'v'w.q(null);" + close));
        House.fault(5, heads + House.main(q + "q.q.q.q=#q;" + close));
        // of a fun's RS, too
        String f = "fun f'a'b'c(p:@'a P'a'b'c,q:@'c Q'c'b'a):*'b P'c'a'b{return p.s;}";
        House.sound(heads + f + House.main(open + "var r:*'w P'v'u'w=f'w'v'u(new'w P'w'v'u{e,row'v(1,1),c,null,null},new'u Q'u'v'w.q(null)).s;" + close));
    }

    private static void allTitles() {
        House.sentence("A TITLE in a TYPE is the one it says, of 24");
        StringBuilder heads = new StringBuilder();
        StringBuilder steps = new StringBuilder("region 'u{");
        for (int i = 0; i < 23; i++) {
            int next = (i + 1) % 23;
            heads.append(i % 3 == 0 ? "union T" : "struct T").append(i).append("'r{n:*'r T").append(next).append("'r;};");
            steps.append("new'u T").append(i).append("'u").append(i % 3 == 0 ? ".n(" : "{").append("new'u T").append(next).append("'u")
                    .append(next % 3 == 0 ? ".n(null)" : "{null}").append(i % 3 == 0 ? ")" : "}").append(".n;");
        }
        PointerHouse x = House.ran(heads + House.main(steps + "}"), 64, 64);
        House.due("state(0)", DONE, x.state(0));
        House.due("objects", 46, x.world(5));
        for (int i = 0; i < 23; i++) {
            int wrong = (i + 2) % 23;
            String made = "#new'H T" + wrong + "'H" + (wrong % 3 == 0 ? ".n(null)" : "{null}");
            House.fault(4, heads + House.main("new'H T" + i + "'H" + (i % 3 == 0 ? ".n(" + made + ");" : "{" + made + "};")));
        }
    }

    private static void deepTypes() {
        House.sentence("TYPES at most 6 (the innermost REGIONS and TITLE count as all others)");
        String six = "@'a *'b ?'a @'b *'a T'b";
        String t = "struct T'x{v:int;};";
        House.sound(t + "fun f'a'b(x:" + six + "):" + six + "{return x;}" + MAIN);
        String[] places = {"struct S'a'b{x:~;};" + MAIN, "union S'a'b{x:~;};" + MAIN, "fun f'a'b(x:~){}" + MAIN, "fun f'a'b():~{throw 1;}" + MAIN,
            "fun f'a'b(){var x:~;}" + MAIN};
        for (String place : places) {
            House.sound(t + place.replace("~", six));
            House.fault(3, t + place.replace("~", "@'a *'b ?'a @'b *'a T#'z"));
            House.fault(3, t + place.replace("~", "@'a *'b ?'a @'b *'a #Z"));
            House.fault(7, t + place.replace("~", "@'a *'b ?'a @'b *'a #T"));
            House.fault(3, t + place.replace("~", "@'a *'b ?'a @'b *#'z T'b"));
            House.fault(3, t + place.replace("~", "@'a *'b ?'a @#'z *'a T'b"));
        }
        // with other REGIONS told, down to the innermost
        String f = t + "fun f'a'b(x:" + six + "):" + six + "{return x;}struct S'a'b{x:" + six + ";};union R'a'b{x:" + six + ";};";
        String open = "region 'u{region 'v{var y:@'u *'v ?'u @'v *'u T'v;";
        House.sound(f + House.main(open + "return;y=f'u'v(y);y=new'u S'u'v{y}.x;y=new'u R'u'v.x(y).x;}}"));
        House.fault(4, f + House.main(open + "return;f'v'u(#y);}}"));
        House.fault(4, f + House.main(open + "return;new'u S'v'u{#y};}}"));
        House.fault(4, f + House.main(open + "return;new'u R'v'u.x(#y);}}"));
        String almost = "region 'u{region 'v{var y:@'u *'v ?'u @'v *'u T'u;return;";
        House.fault(4, f + House.main(almost + "f'u'v(#y);}}"));
        House.fault(4, f + House.main(almost + "new'u S'u'v{#y};}}"));
        House.fault(4, f + House.main(almost + "new'u R'u'v.x(#y);}}"));
        String fromCall = "region 'u{region 'v{var z:@'u *'v ?'u @'v *'u T'v;return;";
        House.fault(4, f + House.main(fromCall + "var w:@'u *'v ?'u @'v *'u T'u=#f'u'v(z);}}"));
        House.fault(4, f + House.main(fromCall + "var w:@'u *'v ?'u @'v *'u T'u=#new'u S'u'v{z}.x;}}"));
        House.sound(f + House.main(fromCall + "print z^^[0]^.v;print f'u'v(z)^^[0]^.v;}}"));
    }

    private static void manyTypes() {
        House.sentence("An EXPR gives .. a TYPE with @ * ? (very many of them in one text)");
        StringBuilder text = new StringBuilder("fun f'a'b'c():*'a *'b *'c *'b *'a int{return null;}fun main(){");
        String[] names = {"'H", "'a", "'b", "'c", "'d", "'e", "'f", "'g", "'h"};
        for (int i = 1; i < names.length; i++) {
            text.append("region ").append(names[i]).append("{");
        }
        int calls = 0;
        for (int i = 0; text.length() < 3970; i++) {
            text.append("f").append(names[i * 7 % 9]).append(names[i / 9 % 9]).append(names[i / 81 % 9]).append("()==null;");
            calls++;
        }
        PointerHouse x = House.ran(text.append("}}}}}}}}}").toString(), 1, 4);
        House.due("state(0)", DONE, x.state(0));
        House.due("steps", 8 + 2 * calls, x.world(0));
        // a cell of a cell of ..: a new TYPE each
        StringBuilder cells = new StringBuilder("fun main(){");
        for (int i = 1; i < names.length; i++) {
            cells.append("region ").append(names[i]).append("{");
        }
        int depth = 0;
        for (int i = 0; cells.length() < 3880; i++) {
            depth = 1 + i % 9;
            StringBuilder one = new StringBuilder("7");
            for (int k = 0; k < depth; k++) {
                one.insert(0, "cell" + names[(i + k * (i / 9 + 1)) % 9] + "(").append(")");
            }
            cells.append("print ").append(one).append(House.times(depth, "^")).append(";");
        }
        x = House.ran(cells.append("}}}}}}}}}").toString(), 64, 64);
        House.due("state(0) of cells", DONE, x.state(0));
        for (int k = 0; k < x.world(4); k++) {
            House.due("printed(" + k + ")", 7, x.printed(k));
        }
    }

    private static void typesStay() {
        House.sentence("the field's TYPE (is as told, however many others there are)");
        String signs = "@*?";
        StringBuilder heads = new StringBuilder("fun f'a'b'c():*'a *'b *'c *'b *'a int{return null;}");
        StringBuilder uses = new StringBuilder();
        for (int i = 0; i < 64; i++) {
            heads.append(i % 8 == 0 ? "struct S" + i / 8 + "{" : "").append((char) ('a' + i % 8)).append(":");
            uses.append(i % 8 == 0 ? "if 0{var x:*'H S" + i / 8 + "=null;" : "").append("x.").append((char) ('a' + i % 8));
            for (int rest = i, k = 0; k < 4; k++, rest /= 3) {
                heads.append(signs.charAt(rest % 3)).append("'H");
                uses.append(rest % 3 == 2 ? "[0]" : "^");
            }
            heads.append(" int;").append(i % 8 == 7 ? "};" : "");
            uses.append("+1;").append(i % 8 == 7 ? "}" : "");
        }
        StringBuilder text = new StringBuilder(heads + "fun main(){region 'a{region 'b{region 'c{region 'd{region 'e{region 'f{region 'g{region 'h{");
        String[] names = {"'H", "'a", "'b", "'c", "'d", "'e", "'f", "'g", "'h"};
        for (int i = 0; text.length() + uses.length() < 3970; i++) {
            text.append("f").append(names[i * 7 % 9]).append(names[i / 9 % 9]).append(names[(i / 3 + 4) % 9]).append("();");
        }
        PointerHouse x = House.ran(text.append("}}}}}}}}").append(uses).append("}").toString(), 4, 4);
        House.due("state(0)", DONE, x.state(0));
    }

    private static void twentyVars() {
        House.sentence("A fun has at most 20 parameters and vars (each is SET and KNOWN by itself)");
        StringBuilder vars = new StringBuilder();
        for (int i = 0; i < 20; i++) {
            vars.append("var v").append(i).append(":*'H int;");
        }
        for (int i = 0; i < 20; i++) {
            StringBuilder others = new StringBuilder();
            for (int k = 0; k < 20; k++) {
                others.append(k == i ? "" : "v" + k + "=cell'H(1);");
            }
            House.fault(6, House.main(vars + "v" + i + "=null;#v" + (i + 1) % 20 + "^;"));
            House.fault(6, House.main(vars + others.toString() + "#v" + i + "^;"));
            PointerHouse x = House.sound(House.main(vars + others.toString() + "v" + i + "=null;v" + i + "^;v" + (i + 7) % 20 + "^;"));
            House.due("NULLS with v" + i + " not KNOWN", 1, x.program(3));
            x = House.sound(House.main(vars + others.toString() + "v" + i + "=null;if v" + i + "==null{return;}v" + i + "^;v" + (i + 19) % 20 + "^;"));
            House.due("NULLS with all KNOWN", 0, x.program(3));
            x = House.sound(House.main(vars + others.toString() + "v" + i + "=cell'H(1);while v" + i + "^{v" + i + "=cell'H(2);}v" + (i + 1) % 20 + "^;"));
            House.due("NULLS with v" + i + " given in a while", 1, x.program(3));
        }
        // LIVE and REACHED are apart from them
        House.fault(8, "fun f():int{" + vars + "v19=cell'H(1);region 'a{#if 1{close 'a;}}return 1;}" + MAIN);
        House.fault(8, "fun f():int{" + vars + "v19=cell'H(1);#}" + MAIN);
    }

    private static void twentyRows() {
        House.sentence("A fun has at most 20 parameters and vars (of three WORDS each, with numbers caught)");
        StringBuilder steps = new StringBuilder();
        StringBuilder prints = new StringBuilder();
        int[] due = new int[20 + 1 + 1 + 20];
        for (int i = 0; i < 14; i++) {
            steps.append("var v").append(i).append(":?'H int=row'H(").append(i + 1).append(",").append(i * 3).append(")+").append(i).append(";");
        }
        for (int i = 0; i < 20; i++) {
            String name = i < 14 ? "v" + i : "" + (char) ('p' + i - 14);
            prints.append("print size(").append(name).append(")*100+").append(name).append("[0];");
            due[i] = i < 14 ? (i + 1) * 100 + i * 3 : 200 + i - 14;
            due[22 + i] = due[i];
        }
        due[20] = 3;
        due[21] = 5;
        String text = "fun f(p:?'H int,q:?'H int,r:?'H int,s:?'H int,t:?'H int,u:?'H int){" + steps + prints
                + "try{throw 3;}catch{try{throw 5;}catch{try{throw 7;}catch{}print caught-2;}print caught+2;}" + prints + "}"
                + House.main("f(row'H(2,0),row'H(2,1),row'H(2,2),row'H(2,3),row'H(2,4),row'H(2,5));");
        House.prints(text, DONE, due);
    }

    private static void varsOver() {
        House.sentence("a var behind its STEP, to the end of its BLOCK (what comes in its place is not SET by it)");
        for (String block : new String[] {"region 'x{~}", "if 1{~}else{~}", "try{~}catch{~}", "region 'x{region 'y{~}}"}) {
            House.fault(6, House.main(block.replace("~", "var a:int=1;") + "var b:int;#b;"));
            House.fault(6, House.main(block.replace("~", "var a:int=1;var c:int=2;") + "var b:int;b=1;var d:int;b;#d;"));
            House.fault(4, House.main(block.replace("~", "var a:*'H int=cell'H(1);") + "var b:*'H int=null;var c:@'H int=#b;"));
            House.sound(House.main(block.replace("~", "var a:int=1;") + "var b:?'H int=row'H(1,1);b;"));
        }
        House.prints(House.main("region 'x{var a:?'H int=row'H(2,5);print a[1];}var b:int=3;if 1{var c:?'H int=row'H(2,6);print c[0];}else{}var d:int=4;"
                + "print b*10+d;"), DONE, 5, 6, 34);
    }

    private static final String EIGHT = "region 'a{region 'b{region 'c{region 'd{region 'e{region 'f{region 'g{region 'h{";

    private static void eightRegions() {
        House.sentence("A fun has .. 8 region STEPS (in one another: what is made in each lies there)");
        String names = "abcdefgh";
        for (int i = 0; i < 8; i++) {
            char r = names.charAt(i);
            String heads = "struct S{a:int;};union U{a:int;b:?'H int;};fun e(){}fun k'x'y'z(n:int):@'z int{region 't{cell't(1);}return cell'z(n);}";
            String text = heads + House.main(EIGHT + "e();cell'" + r + "(1);row'" + r + "(3,1);new'" + r + " S{1};new'" + r + " U.a(1);"
                    + "print k'a'H'" + r + "(6)^;print k'" + r + "'" + r + "'" + r + "(7)^;1;" + House.times(8, "}"));
            PointerHouse x = House.startedIn(text, 9, 64);
            x.run(8 + 5 + 2 * 4);
            for (int k = 0; k <= 8; k++) {
                House.due("objects in region " + k + " of what is made in " + r, k == i + 1 ? 6 : 0, x.region(k, 2));
                House.due("WORDS in region " + k + " of what is made in " + r, k == i + 1 ? 1 + 3 + 1 + 4 + 2 : 0, x.region(k, 1));
            }
            x.run(1);
            House.due("state(0)", DONE, x.state(0));
            House.due("printed(0)", 6, x.printed(0));
            House.due("printed(1)", 7, x.printed(1));
            House.due("world(8)", 0, x.world(8));
        }
    }

    private static void eightRegionsTold() {
        House.sentence("R is .. of a region STEP in whose BLOCK that of S stands (of eight)");
        String names = "abcdefgh";
        String h = "fun h'x'y() where 'x>'y{}";
        for (int r = 0; r < 8; r++) {
            for (int s = 0; s < 8; s++) {
                String call = "'" + names.charAt(r) + "'" + names.charAt(s) + "();";
                if (r <= s) {
                    House.sound(h + House.main(EIGHT + "h" + call + House.times(8, "}")));
                } else {
                    House.fault(5, h + House.main(EIGHT + "h#" + call + House.times(8, "}")));
                }
            }
            House.sound(h + House.main(EIGHT + "h'H'" + names.charAt(r) + "();" + House.times(8, "}")));
            House.fault(5, h + House.main(EIGHT + "h#'" + names.charAt(r) + "'H();" + House.times(8, "}")));
        }
    }

    private static void eightRegionsLive() {
        House.sentence("close R: .. 8 at close, if .. one in its BLOCK that stands around is LIVE (of eight)");
        String names = "abcdefgh";
        StringBuilder closes = new StringBuilder();
        for (int i = 7; i >= 0; i--) {
            closes.append("close '").append(names.charAt(i)).append(";");
            House.sound(House.main(EIGHT + closes + "1;" + House.times(8, "}")));
            House.fault(5, House.main(EIGHT + closes + "cell#'" + names.charAt(i) + "(1);" + House.times(8, "}")));
            House.fault(8, House.main(EIGHT + closes + "#close '" + names.charAt(i) + ";" + House.times(8, "}")));
            if (i > 0) {
                House.sound(House.main(EIGHT + closes + "cell'" + names.charAt(i - 1) + "(1);" + House.times(8, "}")));
                House.fault(8, House.main(EIGHT + "#close '" + names.charAt(i - 1) + ";" + House.times(8, "}")));
                House.fault(8, House.main(EIGHT + closes.substring(0, closes.length() - 9) + "#if 1{close '" + names.charAt(i) + ";}" + House.times(8, "}")));
            }
            PointerHouse x = House.started(House.main(EIGHT + closes + "1;" + House.times(8, "}")));
            x.run(8 + 8 - i);
            House.due("regions behind " + (8 - i) + " times close", 1 + i, x.world(2));
            x.run(500);
            House.due("state(0)", DONE, x.state(0));
            House.due("regions", 1, x.world(2));
        }
        House.fault(8, "fun f():int{" + EIGHT + "close 'h;" + House.times(8, "}") + "#}" + MAIN);
        House.sound("fun f():int{" + EIGHT + "close 'h;return 1;" + House.times(8, "}") + "}" + MAIN);
    }

    private static void deepExprs() {
        House.sentence("EXPRS .. lie at most 20 in one another (and give what they give there)");
        String heads = "struct S{a:int;};union U{a:int;};fun f(n:int,m:int):int{return n+m;}fun g(n:int):int{return n+1;}";
        String c = "var x:int;var f:?'H int=row'H(3,0);f[0]=1;f[1]=2;";
        House.prints(heads + House.main("print " + nested(18, "(", ")", "7") + ";"), DONE, 7);
        House.prints(heads + House.main("print " + nested(17, "1+(", ")", "7") + ";"), DONE, 24);
        House.prints(heads + House.main(c + "print " + nested(18, "f[", "]", "0") + ";"), DONE, 0);
        House.prints(heads + House.main("print " + nested(18, "g(", ")", "7") + ";"), DONE, 25);
        House.prints(heads + House.main("print " + nested(18, "f(1,", ")", "7") + ";"), DONE, 25);
        House.prints(heads + House.main("print " + nested(18, "f(", ",2)", "7") + ";"), DONE, 43);
        House.prints(heads + House.main("print " + nested(18, "new'H S{", "}.a", "7") + ";"), DONE, 7);
        House.prints(heads + House.main("print " + nested(18, "new'H U.a(", ").a", "7") + ";"), DONE, 7);
        House.prints(heads + House.main("print " + nested(18, "cell'H(", ")^", "7") + ";"), DONE, 7);
        House.prints(heads + House.main("print " + nested(18, "cell'H(", ")", "7") + House.times(18, "^") + ";"), DONE, 7);
        House.prints(heads + House.main("print " + nested(18, "row'H(", ",1)[0]", "7") + ";"), DONE, 1);
        House.prints(heads + House.main("print " + nested(18, "row'H(1,", ")[0]", "7") + ";"), DONE, 7);
        House.prints(heads + House.main("print " + nested(17, "nn(", ")", "cell'H(7)") + "^;"), DONE, 7);
        House.prints(heads + House.main("print " + nested(9, "size(row'H(", ",1))", "7") + ";"), DONE, 7);
        House.prints(heads + House.main(c + "print size(" + nested(16, "(", ")", "f") + "+1);"), DONE, 3);
        House.prints(heads + House.main(c + "print (" + nested(15, "(", ")", "&f[1]") + ")^;"), DONE, 2);
        House.prints(heads + House.main("print (" + nested(15, "(", ")", "&new'H S{5}.a") + ")^;"), DONE, 5);
        // in each STEP that has an EXPR
        String deep = nested(18, "(", ")", "1");
        String number = nested(17, "cell'H(", ")^", "cell'H(5)") + "^";
        House.prints(heads + "fun r():int{return " + number + ";}" + House.main("var x:int=" + number + ";print x;x=" + deep + ";print x;" + nested(18, "(", ")", "x")
                + "=3;print x;print r();if " + deep + "{print 6;}while " + nested(18, "g(", ")", "0-18") + "{}throw " + number + ";"
                + nested(18, "cell'H(", ")^", "7") + ";"), 3, 5, 1, 3, 5, 6);
        House.prints(heads + House.main(c + nested(18, "(", ")", "x") + "=4;" + nested(17, "(", ")", "f[x-2]") + "=9;print f[2];"), DONE, 9);
        House.prints(heads + House.main(c + "x=0;f[" + nested(17, "f[", "]", "0") + "]=" + nested(18, "g(", ")", "0") + ";print f[2];"
                + nested(17, "(", ")", "cell'H(1)") + "^=1;" + "new'H S{" + nested(17, "(", ")", "1") + "}.a=2;"), DONE, 18);
        deepFaults(heads);
    }

    private static void deepFaults(String heads) {
        // what is checked is checked at 20, too
        House.fault(3, heads + House.main(nested(18, "(", ")", "#zz") + ";"));
        House.fault(4, heads + House.main("print " + nested(18, "(", ")", "#null") + ";"));
        House.fault(4, heads + House.main(nested(17, "g(", ")", "g(#null)") + ";"));
        House.fault(4, heads + House.main(nested(17, "new'H S{", "}.a", "new'H S{#null}.a") + ";"));
        House.fault(4, heads + House.main(nested(17, "new'H U.a(", ").a", "new'H U.a(#null).a") + ";"));
        House.fault(4, heads + House.main(nested(17, "cell'H(", ")^", "cell'H(#null)^") + ";"));
        House.fault(4, heads + House.main(nested(17, "row'H(1,", ")[0]", "row'H(#null,1)[0]") + ";"));
        House.fault(4, heads + House.main(nested(17, "row'H(1,", ")[0]", "row'H(1,#null)[0]") + ";"));
        House.fault(4, heads + House.main(nested(17, "row'H(1,1)[", "]", "row'H(1,1)[#null]") + ";"));
        House.fault(4, heads + House.main(nested(17, "(", ")", "size(#1)") + ";"));
        House.fault(4, heads + House.main(nested(17, "(", ")", "nn(#1)") + ";"));
        House.fault(4, heads + House.main(nested(17, "(", ")", "&#1.a") + ";"));
        House.fault(3, heads + House.main(nested(16, "(", ")", "&row'H(1,1)[#zz]") + ";"));
        // where it would be too deep and can't stand, either, it is told all the same
        House.fault(1, House.main(nested(19, "(", ")", "#+1") + ";"));
        House.fault(1, House.main(nested(19, "(", ")", "#") + ";"));
        House.fault(1, House.main(nested(19, "(", ")", "#.a") + ";"));
        House.fault(1, House.main(nested(18, "(", ")", "&#.a") + ";"));
        House.fault(1, House.main(nested(18, "(", ")", "&#^") + ";"));
        House.fault(1, House.main(nested(18, "(", ")", "&#[1]") + ";"));
        House.fault(1, "fun f():#T{}" + MAIN);
        House.fault(1, "struct T{a:int;};fun f():#T{}" + MAIN);
    }

    private static void deepBlocks() {
        House.sentence("BLOCKS lie at most 20 in one another (and are done there)");
        String[][] around = {{"if 1{", "}"}, {"if 0{}else{", "}"}, {"while 1{", "return;}"}, {"try{", "}catch{}"}, {"try{throw 1;}catch{", "}"}};
        int[] steps = {1, 1, 1, 1, 2};
        for (int i = 0; i < around.length; i++) {
            PointerHouse x = House.ran(House.main(nested(18, around[i][0], around[i][1], "print 7;try{return;}catch{}print 8;") + "print 9;"), 4, 4);
            House.due("state(0) of " + around[i][0], DONE, x.state(0));
            House.due("numbers of " + around[i][0], 1, x.world(4));
            House.due("steps of " + around[i][0], 18 * steps[i] + 3, x.world(0));
            // at 20 there is a STEP without an EXPR
            x = House.ran(House.main(nested(18, around[i][0], around[i][1], "try{return;}catch{}") + "print 9;"), 4, 4);
            House.due("numbers behind a return at 20", 0, x.world(4));
            x = House.ran(House.main(nested(18, around[i][0], around[i][1], "region 'a{var x:int;close 'a;return;}")), 4, 4);
            House.due("state(0) with close at 20", DONE, x.state(0));
            House.due("steps with close at 20", 18 * steps[i] + 4, x.world(0));
            House.fault(8, House.main(nested(18, around[i][0].replace("throw 1;", ""), around[i][1].replace("return;", ""), "region 'a{close 'a;#close 'a;}")));
            House.fault(3, House.main(nested(18, around[i][0].replace("throw 1;", ""), around[i][1].replace("return;", ""), "region 'a{close #'z;}")));
            House.fault(3, House.main(nested(18, around[i][0].replace("throw 1;", ""), around[i][1].replace("return;", ""), "region 'a{var x:@#'z int;}")));
            House.fault(8, "fun f():int{" + nested(18, around[i][0].replace("throw 1;", ""), around[i][1].replace("return;", ""), "try{#return;}catch{}") + "throw 1;}" + MAIN);
        }
        House.prints(House.main(nested(18, "if 1{", "}", "print 1;") + nested(18, "if 0{}else{", "}", "print 2;") + nested(18, "try{", "}catch{}", "print 3;")
                + nested(9, "try{throw 4;}catch{", "}", "print caught;")), DONE, 1, 2, 3, 4);
    }

    private static void namesGivenDeep() {
        House.sentence("no VAR is KNOWN to which its BLOCK has a NAME = (at any depth)");
        String[][] around = {{"if 1{", "}"}, {"if 1{}else{", "}"}, {"while 1{", "}"}, {"try{", "}catch{}"}, {"try{}catch{", "}"}};
        for (String[] one : around) {
            for (int depth = 0; depth <= 17; depth++) {
                String given = nested(depth, one[0], one[1], "p=p;");
                String not = nested(depth, one[0], one[1], "p^=1;");
                String p = "var p:*'H int=cell'H(1);";
                House.due("NULLS of a while with it", 1, House.sound(House.main(p + "while p^{" + given + "}")).program(3));
                House.due("NULLS of a while without it", 0, House.sound(House.main(p + "while p^{" + not + "}")).program(3));
                House.due("NULLS of a try with it", 1, House.sound(House.main(p + "try{" + given + "}catch{p^;}")).program(3));
                House.due("NULLS of a try without it", 0, House.sound(House.main(p + "try{" + not + "}catch{p^;}")).program(3));
            }
        }
    }

    private static void triesAndRegions() {
        House.sentence("An ERROR ends the BLOCKS, calls and regions around it up to the innermost try (with others behind and around)");
        String text = House.main("region 'a{try{region 'b{try{region 'c{throw 1;}}catch{1;}throw 2;}}catch{2;}3;}");
        PointerHouse x = House.started(text);
        int[] regions = {1, 2, 2, 3, 3, 4, 3, 3, 2, 2};
        for (int i = 0; i < regions.length; i++) {
            House.due("regions behind " + i + " STEPS", regions[i], x.world(2));
            x.run(1);
        }
        House.due("state(0)", DONE, x.state(0));
        String f = "fun f(n:int):int{region 'a{cell'a(n);try{if n==0{throw 5;}return f(n-1)+1;}catch{if n<3{throw caught+10;}return caught;}}}";
        x = House.prints(f + House.main("print f(6);"), DONE, 35 + 3);
        House.due("regions", 1, x.world(2));
        House.due("pages", 0, x.world(1));
        // a return out of a try leaves none of them behind
        House.prints("fun g():int{try{try{return 4;}catch{}}catch{}return 0;}" + House.main("var i:int=0;while i<3{print g();i=i+1;}try{g();throw 6;}catch{print caught;}"),
                DONE, 4, 4, 4, 6);
        x = House.ran("fun g():int{try{try{return 4;}catch{print 9;}}catch{print 9;}return 0;}" + House.main("g();throw 7;"), 4, 4);
        House.due("state(0) of an ERROR behind it", 3, x.state(0));
        House.due("state(1)", 7, x.state(1));
    }

    private static void longRuns() {
        House.sentence("run: It does so many STEPS, as long as it goes on (nothing is used up by them)");
        House.prints(House.main("var f:?'H int=row'H(2,5);var i:int=0;while i<9000{f;f+1;i=i+1;}print (f+1)[0]+size(f);"), DONE, 7);
        House.prints("fun g(a:?'H int,b:?'H int,c:?'H int,d:?'H int,e:?'H int,n:int):int{return n;}" + House.main("var f:?'H int=row'H(2,5);var i:int=0;"
                + "while i<3000{try{print g(f,f,f,f,f,1+(2*(3/0)));}catch{}i=i+1;}print g(f,f,f,f,f,8)+f[1];"), DONE, 13);
        House.prints("fun g(n:int):?'H int{if n==0{throw 3;}return row'H(0,1);}" + House.main("var i:int=0;"
                + "while i<3000{try{if size(g(1)+size(g(1)+size(g(0)))){}}catch{}i=i+1;}print i;"), DONE, 3000);
        PointerHouse x = House.started(House.main("var i:int=0;while 1{i=i+1;region 'a{cell'a(i);}}"));
        for (int k = 0; k < 400; k++) {
            House.due("run", 500, x.run(500));
        }
        House.due("steps", 200000, x.world(0));
        House.due("objects", (200000 - 1) / 4, x.world(5));
        House.due("regions", 1 + (200000 - 1) % 4 / 3, x.world(2));
    }

    private static void whereThroughEach() {
        House.sentence("where says so (perhaps in several: R > T, T > S), whichever of the RS T is");
        String[] rs = {"'a", "'b", "'c"};
        for (String r : rs) {
            for (String t : rs) {
                for (String s : rs) {
                    if (!r.equals(t) && !t.equals(s) && !r.equals(s)) {
                        String f = "fun f'a'b'c(x:@" + r + " int):@" + s + " int where ";
                        House.sound(f + r + ">" + t + "," + t + ">" + s + "{return x;}" + MAIN);
                        House.sound(f + t + ">" + s + "," + r + ">" + t + "{return x;}" + MAIN);
                        House.fault(5, f + t + ">" + r + "," + t + ">" + s + "{return #x;}" + MAIN);
                        House.fault(5, f + r + ">" + t + "," + s + ">" + t + "{return #x;}" + MAIN);
                        House.fault(5, f + s + ">" + t + "," + t + ">" + r + "{return #x;}" + MAIN);
                    }
                }
            }
        }
    }

    /** All that can be asked of a text that is built, started and run, as one number. */
    private static long answers(PointerHouse x, String text) {
        long all = House.build(x, text);
        all = all * 31 + x.fault(0);
        all = all * 31 + x.fault(1);
        for (int what = 0; what <= 6; what++) {
            all = all * 31 + x.program(what);
        }
        all = all * 31 + (x.start(8, 8) ? 1 : 0);
        x.input(3);
        for (int i = 0; i < 4; i++) {
            all = all * 31 + x.state(2);
            all = all * 31 + x.run(i == 3 ? 500 : 2);
            for (int what = 0; what <= 8; what++) {
                all = all * 31 + x.world(what);
            }
            all = all * 31 + x.region(0, 1);
            all = all * 31 + x.region(1, 2);
        }
        all = all * 31 + x.state(0);
        all = all * 31 + x.state(1);
        for (int k = 0; k < 5; k++) {
            all = all * 31 + x.printed(k);
        }
        return all;
    }

    private static void buildBehindBuild() {
        House.sentence("build: The text becomes the program (whatever was built before)");
        String[] texts = {
            "", MAIN, "fun main(){1;2;3;4;print 5;}", "fun main(){print (1+2)*(3+4);print 1;}", "fun main(){if read{print 1;}else{print 2;}while 0{}print 3;}",
            "fun f'a'b(x:@'a int):@'b int where 'a>'b{return x;}fun main(){print f'H'H(cell'H(4))^;}",
            "fun f'a'b(x:@'a int):@'b int{return x;}fun main(){print f'H'H(cell'H(4))^;}",
            "fun f'a'b(x:@'a int):int dead 'a{return 1;}fun main(){print f'H'H(cell'H(4));}",
            "fun f'a'b(x:@'a int):int{return x^;}fun main(){print f'H'H(cell'H(4));}",
            "struct A'a{a:int;b:int;c:*'a A'a;};fun main(){print new'H A'H{1,2,null}.b;}", "struct A{b:int;};fun main(){print new'H A{1}.b;}",
            "union A{b:int;c:?'H int;};fun main(){print new'H A.c(row'H(1,2)).c[0];}", "fun main(){region 'a{region 'b{cell'b(1);close 'b;}cell'a(2);throw 9;}}",
            "fun main(){try{throw read;}catch{print caught;}}", "fun f(a:int,b:int,c:int):int{return a*b+c;}fun main(){print f(1,2,3);print f(4,5,6);}",
            "fun main(){var x:?'H int=row'H(3,1);x[1]=2;print x[0]+x[1];print size(x);}", "fun main(){print 1", "fun main(){var x:int;print x;}",
            "struct A'r{a:@'r int;b:int;};fun main(){}", "struct A{a:int;};fun b(){}fun main(){new'H A{1}.b;}",
            "fun g(){}fun f(){g();}fun main(){f();f();main();}", "fun main(){&row'H(1,2)[0];nn(cell'H(3));cell'H(row'H(1,2))^[0]=read;}",
        };
        long[] due = new long[texts.length];
        for (int i = 0; i < texts.length; i++) {
            due[i] = answers(new PointerHouse(), texts[i]);
        }
        for (String first : texts) {
            for (int i = 0; i < texts.length; i++) {
                PointerHouse x = new PointerHouse();
                answers(x, first);
                House.due("the answers of " + texts[i] + " behind " + first, due[i], answers(x, texts[i]));
                House.due("the answers of it again", due[i], answers(x, texts[i]));
            }
        }
    }

    private static void denseBuilds() {
        House.sentence("build: .. (nothing is used up by a build)");
        String dense = "fun main(){" + House.times(1994, "1;") + "}";
        PointerHouse x = new PointerHouse();
        for (int i = 0; i < 2; i++) {
            House.due("build " + i, 1, House.build(x, dense));
            House.due("start " + i, true, x.start(1, 4));
            x.run(500);
            x.run(500);
            x.run(500);
            House.due("the rest " + i, 494, x.run(500));
        }
    }
}
