/** What EXPRS and STEPS give and want, sentence by sentence, and in which order it is checked (promises 4 to 6). */
public final class ExprBoundsTest {
    private static final String MAIN = "fun main(){}";
    private static final String HEADS = "struct L'r{v:int;n:*'r L'r;};union U'r{i:int;p:*'r int;f:?'r int;};fun e(){}fun n():int{return 1;}"
            + "fun o'r(x:*'r int):*'r int{return x;}";
    /* A region that is not LIVE, with something of each kind in it. */
    private static final String CLOSED = "region 'd{var l:@'d L'd=new'd L'd{1,null};var u:@'d U'd=new'd U'd.i(1);var c:@'d int=cell'd(1);"
            + "var f:?'d int=row'd(1,1);close 'd;~}";
    private static final String[] GIVES = {"e()", "1", "null", "cell'H(1)", "o'H(null)", "row'H(1,1)"};
    private static final int NOTHING = 0;
    private static final int INT = 1;
    private static final int NULL = 2;
    private static final int SOLID = 3;
    private static final int LOOSE = 4;
    private static final int ROW = 5;

    public static void main(String[] args) {
        fits();
        fitsCell();
        fitsRegion();
        numbersAndCaught();
        names();
        fields();
        indexes();
        cells();
        tags();
        addresses();
        solidAndSize();
        newCells();
        newRows();
        newThings();
        calls();
        callRegions();
        operators();
        comparisons();
        varSteps();
        places();
        otherSteps();
        programCounts();
        House.finish();
    }

    private static void bad(int kind, String steps) {
        House.fault(kind, HEADS + House.main(steps));
    }

    private static void good(String steps) {
        House.sound(HEADS + House.main(steps));
    }

    private static void closed(int kind, String steps) {
        bad(kind, CLOSED.replace("~", steps));
    }

    private static void goodClosed(String steps) {
        good(CLOSED.replace("~", steps));
    }

    /** An EXPR of each kind where the # is: sound for those that are in fine, else the FAULT at it. */
    private static void each(int kind, String steps, int... fine) {
        for (int k = 0; k < GIVES.length; k++) {
            boolean ok = false;
            for (int one : fine) {
                ok |= one == k;
            }
            String with = steps.replace("#", "#" + GIVES[k]);
            if (ok) {
                good(with.replace("#", ""));
            } else {
                bad(kind, with);
            }
        }
    }

    private static void fits() {
        House.sentence("It FITS a TYPE: int and int; NULL and *; @ and @, @ and *, * and *, ? and ?");
        each(4, "var x:int=#;", INT);
        each(4, "var x:@'H int=#;", SOLID);
        each(4, "var x:*'H int=#;", NULL, SOLID, LOOSE);
        each(4, "var x:?'H int=#;", ROW);
        each(4, "var x:int;x=#;", INT);
        each(4, "var x:@'H int;x=#;", SOLID);
        each(4, "var x:*'H int;x=#;", NULL, SOLID, LOOSE);
        each(4, "var x:?'H int;x=#;", ROW);
        each(4, "new'H L'H{#,null};", INT);
        each(4, "new'H U'H.p(#);", NULL, SOLID, LOOSE);
        each(4, "new'H U'H.f(#);", ROW);
        each(4, "new'H U'H.i(#);", INT);
        each(4, "o'H(#);", NULL, SOLID, LOOSE);
        each(4, "cell'H(1)^=#;", INT);
        each(4, "row'H(1,1)[0]=#;", INT);
        each(4, "new'H U'H.i(1).f=#;", ROW);
    }

    private static void fitsCell() {
        House.sentence("with the same CELL (and the same REGIONS in it) .. else 4");
        good("var x:@'H @'H int=cell'H(cell'H(1));");
        bad(4, "var x:@'H *'H int=#cell'H(cell'H(1));");
        bad(4, "var x:@'H int=#cell'H(cell'H(1));");
        bad(4, "var x:@'H @'H int=#cell'H(1);");
        bad(4, "var x:?'H @'H int=#row'H(1,row'H(1,1));");
        bad(4, "var x:@'H L'H=#new'H U'H.i(1);");
        bad(4, "var x:@'H L'H=#cell'H(1);");
        good("region 'a{var x:@'a @'a int=cell'a(cell'a(1));}");
        bad(4, "region 'a{var x:@'a @'a int=#cell'a(cell'H(1));}");
        bad(4, "region 'a{var x:?'a ?'a int=#row'a(1,row'H(1,1));}");
        bad(4, "region 'a{var x:@'a L'a=#new'a L'H{1,null};}");
        good("region 'a{var x:@'a L'H=new'a L'H{1,null};}");
        // where both lack, it is 4
        bad(4, "region 'a{var x:@'H int=#cell'a(cell'a(1));}");
        bad(4, "region 'a{var x:@'H int=#row'a(1,1);}");
        House.fault(4, "struct P'a'b{x:int;};" + House.main("region 'u{var x:@'H P'u'H=#new'H P'H'u{1};}"));
        House.sound("struct P'a'b{x:int;};" + House.main("region 'u{var x:@'H P'u'H=new'H P'u'H{1};}"));
        House.fault(4, "struct P'a'b'c{x:int;};" + House.main("region 'u{var x:@'H P'H'H'u=#new'H P'H'H'H{1};}"));
    }

    private static void fitsRegion() {
        House.sentence("and a REGION that OUTLIVES the TYPE's: 5 if that alone is not so");
        good("region 'a{var x:@'a int=cell'H(1);var y:*'a int=cell'H(1);var z:?'a int=row'H(1,1);}");
        bad(5, "region 'a{var x:@'H int=#cell'a(1);}");
        bad(5, "region 'a{var x:*'H int=#cell'a(1);}");
        bad(5, "region 'a{var x:*'H int=#o'a(null);}");
        bad(5, "region 'a{var x:?'H int=#row'a(1,1);}");
        bad(5, "region 'a{var x:@'H L'a=#new'a L'a{1,null};}");
        bad(5, "region 'a{new'H L'H{1,#new'a L'H{1,null}};}");
        bad(5, "region 'a{new'H U'H.p(#cell'a(1));}");
        bad(5, "region 'a{o'H(#cell'a(1));}");
        bad(5, "region 'a{var x:@'H *'H int=cell'H(o'H(null));x^=#cell'a(1);}");
        House.fault(5, "fun f'a'b(x:@'a int):@'b int{return #x;}" + MAIN);
    }

    private static void numbersAndCaught() {
        House.sentence("NUMBER, read: int. caught: 8 at it if no catch BLOCK of its fun is around; int.");
        good("var x:int=7;x=read;");
        bad(8, "#caught;");
        bad(8, "try{#caught;}catch{}");
        good("try{}catch{caught;}");
        bad(8, "try{}catch{}#caught;");
        good("try{}catch{var x:int=caught;if caught{while caught{region 'a{try{caught;}catch{caught;}}}}}");
        bad(8, "try{try{}catch{}#caught;}catch{}");
        good("try{}catch{try{}catch{}caught;}");
        // another fun's catch BLOCK is none
        House.fault(8, "fun f(){#caught;}" + House.main("try{}catch{f();}"));
        House.fault(8, "fun f(){try{}catch{caught;}}fun g(){#caught;}" + MAIN);
        bad(4, "try{}catch{#caught^;}");
    }

    private static void names() {
        House.sentence("a NAME: 3; 6 if it is not SET; its TYPE, but @ for * if it is KNOWN.");
        bad(3, "#x;");
        bad(6, "var x:int;#x;");
        good("var x:int=1;x;");
        bad(6, "var x:@'H int;#x^;");
        bad(6, "var x:?'H int;#x[0]=1;");
        bad(6, "var x:@'H L'H;&#x.v;");
        bad(4, "var x:*'H int=null;var y:@'H int=#x;");
        good("var x:*'H int=cell'H(1);var y:@'H int=x;");
        bad(4, "var x:*'H int=cell'H(1);x=null;var y:@'H int=#x;");
        good("var x:*'H int=cell'H(1);var y:@'H @'H int=cell'H(x);");
        bad(4, "var x:*'H int=null;var y:@'H @'H int=#cell'H(x);");
        good("var x:*'H int=null;var y:@'H *'H int=cell'H(x);");
    }

    private static void fields() {
        House.sentence("E.f: E must give @ or * with a TITLE, else 4 at E; its REGION must be LIVE, else 5 at E; 3 at f");
        each(4, "#.v;");
        each(4, "#.v=1;");
        good("new'H L'H{1,null}.v;new'H L'H{1,null}.n.n.v;new'H U'H.i(1).i;");
        good("var l:*'H L'H=null;l.v;l.n=l;");
        bad(4, "#row'H(1,new'H L'H{1,null}).v;");
        bad(4, "#cell'H(new'H L'H{1,null}).v;");
        bad(3, "new'H L'H{1,null}.#i;");
        bad(3, "new'H U'H.i(1).#v;");
        bad(3, "new'H L'H{1,null}.#w=1;");
        closed(5, "#l.v;");
        closed(5, "#l.zz;");
        closed(5, "#l.v=1;");
        closed(5, "#u.i;");
        closed(4, "#c.zz;");
        // the field's TYPE has the TITLE's REGIONS for its RS
        good("region 'a{var l:@'H L'a=new'H L'a{1,null};l.n=new'a L'a{2,null};}");
        bad(5, "region 'a{var l:@'a L'H=new'a L'H{1,null};l.n=#new'a L'H{2,null};}");
        bad(4, "region 'a{var l:@'a L'a=new'a L'a{1,null};l.n=#new'a L'H{2,null};}");
        closed(5, "var m:@'H L'd=new'H L'd{1,null};#m.n.v;");
        goodClosed("var m:@'H L'd=new'H L'd{1,null};m.n;m.v;");
    }

    private static void indexes() {
        House.sentence("E[i]: E, then i; ?, else 4 at E; LIVE, 5 at E; i int, 4 at it; the TYPE behind the REGION.");
        each(4, "#[0];", ROW);
        each(4, "#[0]=1;", ROW);
        each(4, "row'H(1,1)[#];", INT);
        bad(3, "1[#zz];");
        bad(3, "#yy[zz];");
        bad(4, "#1[null];");
        closed(5, "#f[null];");
        closed(5, "#f[0]=1;");
        closed(3, "f[#zz];");
        good("var x:@'H int=row'H(1,cell'H(1))[0];");
        bad(4, "var x:int=#row'H(1,cell'H(1))[0];");
    }

    private static void cells() {
        House.sentence("E^: @ or * without a TITLE, else 4 at E; LIVE, 5; the CELL.");
        each(4, "#^;", SOLID, LOOSE);
        each(4, "#^=1;", SOLID, LOOSE);
        bad(4, "#new'H L'H{1,null}^;");
        bad(4, "#new'H U'H.i(1)^=1;");
        closed(5, "#c^;");
        closed(5, "#c^=1;");
        closed(4, "#l^;");
        good("var x:@'H int=cell'H(cell'H(1))^;");
        good("var x:?'H int=cell'H(row'H(1,1))^;");
        good("cell'H(new'H L'H{1,null})^.v=2;");
    }

    private static void tags() {
        House.sentence("E is m: @ or * with a union, else 4; LIVE, 5; 3 at m; int.");
        each(4, "# is i;");
        bad(4, "#new'H L'H{1,null} is v;");
        good("print new'H U'H.i(1) is p;var u:*'H U'H=null;print u is i+1;");
        bad(3, "new'H U'H.i(1) is #v;");
        closed(5, "#u is i;");
        closed(5, "#u is zz;");
        closed(4, "#l is zz;");
        bad(4, "#new'H U'H.i(1) is i is p;");
    }

    private static void addresses() {
        House.sentence("& T: T is E.f or E[i], else 4 at T (its parts are not checked); checked as that, then 4 at T, if it is a union's field");
        good("var x:@'H int=&new'H L'H{1,null}.v;x=&row'H(1,1)[0];var y:@'H *'H L'H=&new'H L'H{1,null}.n;");
        for (String t : new String[] {"1", "zz", "null", "zz()", "zz^", "zz.v^", "zz[0]^", "zz.v is w", "zz[0] is w", "cell'z(1)", "&zz.v", "nn(zz)",
            "new'z Z{}", "read", "caught"}) {
            bad(4, "&#" + t + ";");
            bad(4, "&(#" + t + ");");
        }
        bad(4, "&(#zz.v+1);");
        bad(3, "&#zz.v;");
        bad(3, "&#zz[yy];");
        bad(4, "&#1.v;");
        bad(4, "&#1[0];");
        bad(3, "&new'H L'H{1,null}.#i;");
        bad(4, "&row'H(1,1)[#null];");
        closed(5, "&#l.v;");
        closed(5, "&#f[0];");
        bad(4, "&#new'H U'H.i(1).i;");
        bad(3, "&new'H U'H.i(1).#v;");
        closed(5, "&#u.i;");
        good("&new'H U'H.i(1).f[0];");
        // @ with E's REGION, and T's TYPE
        good("region 'a{var x:@'a int=&row'a(1,1)[0];var y:@'a *'H L'H=&new'a L'H{1,null}.n;}");
        bad(5, "region 'a{var x:@'H int=#&row'a(1,1)[0];}");
        bad(4, "var x:@'H int=#&row'H(1,row'H(1,1))[0];");
        good("var l:*'H L'H=null;var x:@'H int=&l.v;");
    }

    private static void solidAndSize() {
        House.sentence("nn(E): @ or *, else 4; with @. size(E): ?, else 4; int.");
        each(4, "nn(#);", SOLID, LOOSE);
        each(4, "size(#);", ROW);
        good("var x:@'H int=nn(o'H(null));var y:@'H L'H=nn(new'H L'H{1,null}.n);");
        bad(4, "var x:@'H int=#o'H(null);");
        good("var x:int=size(row'H(1,1));");
        // neither asks for LIVE
        goodClosed("nn(c);nn(l);print size(f);");
    }

    private static void newCells() {
        House.sentence("cell R (E): R (3, then 5 if it is not LIVE); E: 4 if it gives NOTHING or NULL; @ R and that.");
        each(4, "cell'H(#);", INT, SOLID, LOOSE, ROW);
        bad(3, "cell#'z(zz);");
        closed(5, "cell#'d(zz);");
        bad(3, "cell'H(#zz);");
        good("region 'a{var x:@'a @'H int=cell'a(cell'H(1));}");
        goodClosed("cell'H(c);cell'H(f);");
        House.fault(5, "fun f'a() dead 'a{cell#'a(1);}" + MAIN);
        House.sound("fun f'a(){cell'a(1);}" + MAIN);
    }

    private static void newRows() {
        House.sentence("row R (n, E): R likewise; n int; E as with cell; ? R and that.");
        each(4, "row'H(#,1);", INT);
        each(4, "row'H(1,#);", INT, SOLID, LOOSE, ROW);
        bad(3, "row#'z(zz,1);");
        closed(5, "row#'d(zz,1);");
        bad(4, "row'H(#null,zz);");
        bad(3, "row'H(1,#zz);");
        good("region 'a{var x:?'a ?'H int=row'a(1,row'H(1,1));}");
        House.fault(5, "fun f'a() dead 'a{row#'a(1,1);}" + MAIN);
    }

    private static void newThings() {
        House.sentence("new R TITLE RS: R likewise; TITLE 3; 7; RS (3 each); then 7 at the { .. or .; 7 at the TITLE ..; 3 at a union's NAME; each FITS");
        bad(3, "new#'z Z'y{zz};");
        closed(5, "new#'d Z'y{zz};");
        bad(3, "new'H #Z'y{zz};");
        bad(7, "new'H #L'y'y.v(zz);");
        bad(7, "new'H #L.v(zz);");
        bad(3, "new'H L#'y.v(zz);");
        bad(7, "new'H L'H#.v(zz);");
        bad(7, "new'H U'H#{zz};");
        bad(7, "new'H #L'H{zz};");
        bad(7, "new'H #L'H{zz,zz,zz};");
        bad(3, "new'H U'H.#v(zz);");
        bad(3, "new'H U'H.i(#zz);");
        bad(3, "new'H L'H{#zz,1};");
        bad(4, "new'H L'H{#null,zz};");
        bad(3, "new'H L'H{1,#zz};");
        bad(4, "new'H L'H{1,#1};");
        // RS need not be LIVE, R must
        goodClosed("new'H L'd{1,null};new'H U'd.p(c);");
        House.sound(HEADS + "fun f'a() dead 'a{new'H L'a{1,null};}" + MAIN);
        House.fault(5, HEADS + "fun f'a() dead 'a{new#'a L'H{1,null};}" + MAIN);
        // with these RS
        good("region 'a{new'H L'a{1,new'a L'a{2,null}};}");
        bad(5, "region 'a{new'H L'H{1,#new'a L'H{2,null}};}");
        bad(4, "region 'a{new'H L'a{1,#new'a L'H{2,null}};}");
        good("region 'a{var x:@'a L'H=new'a L'H{1,null};}");
    }

    private static void calls() {
        House.sentence("A call: 3 at the NAME; 7 for RS; these, 3 each; 7 for ARGUMENTS; each, and that it FITS its parameter's TYPE (with these RS)");
        bad(3, "#zz'z(yy);");
        bad(7, "#o'z'z(yy,yy);");
        bad(7, "#o(yy,yy);");
        bad(3, "o#'z(yy,yy);");
        bad(7, "#o'H(yy,yy);");
        bad(7, "#o'H();");
        bad(3, "o'H(#yy);");
        bad(4, "o'H(#1);");
        String two = "fun f'a'b(x:*'a int,y:@'b @'a int){}";
        House.fault(3, two + House.main("f'H#'z(1,zz);"));
        House.fault(4, two + House.main("f'H'H(#1,zz);"));
        House.fault(3, two + House.main("f'H'H(null,#zz);"));
        House.sound(two + House.main("region 'u{region 'v{f'u'v(null,cell'v(cell'u(1)));}}"));
        House.fault(4, two + House.main("region 'u{region 'v{f'u'v(null,#cell'v(cell'v(1)));}}"));
        House.fault(5, two + House.main("region 'u{region 'v{f'u'u(null,#cell'v(cell'u(1)));}}"));
        // its TYPE (with these RS), or NOTHING
        good("region 'u{var x:*'u int=o'u(null);}");
        bad(5, "region 'u{var x:*'H int=#o'u(null);}");
        bad(4, "print #e();");
        good("e();n();print n();");
    }

    private static void callRegions() {
        House.sentence("then each of these RS must be LIVE, if the fun doesn't call it dead (5 at it); then for each REGION > REGION of the fun, in order ..");
        String f = "fun f'a'b(x:int) dead 'b where 'a>'b{}";
        House.sound(f + House.main("region 'u{region 'v{f'H'v(1);f'u'v(1);f'u'u(1);f'H'H(1);close 'v;f'u'u(1);f'H'v(1);}}"));
        House.fault(5, f + House.main("region 'u{region 'v{close 'v;f#'v'v(1);}}"));
        House.fault(4, f + House.main("region 'u{region 'v{close 'v;f'v'v(#null);}}"));
        House.fault(5, f + House.main("region 'u{region 'v{f#'v'u(1);}}"));
        House.fault(5, f + House.main("region 'u{f#'u'H(1);}"));
        String g = "fun g'a'b'c() dead 'c where 'a>'b,'b>'c{}";
        House.sound(g + House.main("region 'u{region 'v{g'H'u'v();g'u'u'u();g'u'v'v();}}"));
        House.fault(5, g + House.main("region 'u{region 'v{g#'v'u'H();}}"));
        House.fault(5, g + House.main("region 'u{region 'v{g'u#'v'u();}}"));
        House.fault(5, g + House.main("region 'u{region 'v{close 'v;g#'v'v'u();}}"));
        House.fault(5, g + House.main("region 'u{region 'v{close 'v;g'u#'v'u();}}"));
        // a REGION that is LIVE no more OUTLIVES but itself; one LIVE still OUTLIVES it
        String h = "fun h'a'b() dead 'a'b where 'a>'b{}";
        House.sound(h + House.main("region 'u{region 'v{close 'v;h'v'v();h'u'v();close 'u;h'u'u();h'H'v();}}"));
        House.fault(5, h + House.main("region 'u{region 'v{close 'v;close 'u;h#'u'v();}}"));
        // by the caller's own where
        House.sound(h + "fun k'p'q'r() dead 'p'q'r where 'p>'q,'q>'r{h'p'r();}" + MAIN);
        House.fault(5, h + "fun k'p'q'r() dead 'p'q'r where 'p>'q,'q>'r{h#'r'p();}" + MAIN);
    }

    private static void operators() {
        House.sentence("Operators: both parts; ? + int: ? as on the left; .. Else both int, 4 at the one that is not.");
        for (String op : new String[] {"-", "*", "/", "%", "<"}) {
            each(4, "#" + op + "1;", INT);
            each(4, "1" + op + "#;", INT);
            bad(4, "#null" + op + "null;");
            bad(3, "null" + op + "#zz;");
        }
        each(4, "#+1;", INT, ROW);
        each(4, "1+#;", INT);
        bad(4, "#row'H(1,1)+null;");
        bad(4, "#row'H(1,1)+row'H(1,1);");
        bad(3, "null+#zz;");
        good("var x:?'H int=row'H(1,1)+1+2;x=(x+1)+n();");
        bad(4, "var x:int=#row'H(1,1)+1;");
        // from the left, all of one strength
        bad(4, "#row'H(1,1)+1*2;");
        good("row'H(1,1)+(1*2);");
        bad(4, "1+2*#null+zz;");
        good("var x:int=1<2==1<2;");
        goodClosed("f+1;");
    }

    private static void comparisons() {
        House.sentence("==: both int; or both @ or * or NULL, one of which FITS the other if both were * (4 at the right one if neither does ..), then LIVE");
        String[] pointers = {"null", "cell'H(1)", "o'H(null)"};
        for (String left : pointers) {
            for (String right : pointers) {
                good("print " + left + "==" + right + ";");
            }
            bad(4, "1==#" + left + ";");
            bad(4, "#" + left + "==1;");
            bad(4, "#" + left + "==row'H(1,1);");
            bad(4, "#" + left + "==e();");
        }
        good("print 1==1;");
        bad(4, "#row'H(1,1)==row'H(1,1);");
        bad(4, "#e()==e();");
        bad(4, "1==#row'H(1,1);");
        bad(4, "cell'H(1)==#cell'H(cell'H(1));");
        bad(4, "new'H L'H{1,null}==#new'H U'H.i(1);");
        bad(4, "cell'H(cell'H(1))==#cell'H(o'H(null));");
        good("region 'a{print cell'a(1)==cell'H(1);print cell'H(1)==cell'a(1);}");
        House.fault(4, "fun f'a'b(x:@'a int,y:@'b int){x==#y;}" + MAIN);
        House.sound("fun f'a'b(x:@'a int,y:@'b int) where 'a>'b{x==y;y==x;}" + MAIN);
        // whatever lacks, it is 4; then LIVE, the left one first; without NULL alone
        House.fault(4, "fun f'a'b(x:@'a int,y:@'b int) dead 'a'b{x==#y;}" + MAIN);
        House.fault(5, "fun f'a'b(x:@'a int,y:@'b int) dead 'a'b where 'a>'b{#x==y;}" + MAIN);
        House.fault(5, "fun f'a'b(x:@'a int,y:@'b int) dead 'b where 'a>'b{x==#y;}" + MAIN);
        House.fault(5, "fun f'a'b(x:@'a int,y:@'b int) dead 'b where 'a>'b{#y==x;}" + MAIN);
        closed(5, "#c==c;");
        closed(5, "cell'H(1)==#c;");
        goodClosed("print c==null;print null==c;");
    }

    private static void varSteps() {
        House.sentence("var: the TYPE; EXPR, which FITS; 2 at its NAME if one can be seen");
        bad(3, "var x:int=1;var x:@#'z int=zz;");
        bad(3, "var x:int=1;var x:int=#zz;");
        bad(4, "var x:int=1;var x:int=#null;");
        bad(2, "var x:int=1;var #x:int=1;");
        bad(2, "var x:int=1;var #x:*'H int;");
        good("var x:int=1;var y:int=x;");
    }

    private static void places() {
        House.sentence("PLACE = EXPR: EXPR; then a NAME: 3; it FITS (at EXPR) .. Another EXPR ahead of =: 4 at it, behind EXPR.");
        bad(3, "yy=#zz;");
        bad(3, "#yy=1;");
        bad(3, "#yy=null;");
        bad(4, "var x:int;x=#null;");
        bad(3, "yy.v=#zz;");
        bad(3, "#yy.v=null;");
        bad(3, "yy[xx]=#zz;");
        bad(3, "#yy[xx]=1;");
        bad(4, "#1[0]=1;");
        bad(3, "row'H(1,1)[#xx]=null;");
        bad(4, "row'H(1,1)[#null]=null;");
        bad(4, "row'H(1,1)[0]=#null;");
        bad(3, "yy^=#zz;");
        bad(3, "#yy^=1;");
        for (String other : new String[] {"1", "null", "read", "n()", "zz()", "cell'z(1)", "yy+1", "nn(yy)", "size(yy)", "&yy.v", "yy is v", "yy.v is w",
            "yy==null", "caught", "row'z(1,1)", "yy.v+1", "yy[0]+1", "yy^+1", "yy.v==zz.v", "1+yy.v"}) {
            bad(4, "#" + other + "=1;");
            bad(4, "(#" + other + ")=1;");
            bad(3, other + "=#xx;");
        }
    }

    private static void otherSteps() {
        House.sentence("An EXPR alone may give anything. print, throw: int, 4. .. if E: int, @ or *, else 4.");
        each(4, "#;", NOTHING, INT, NULL, SOLID, LOOSE, ROW);
        each(4, "print #;", INT);
        each(4, "throw #;", INT);
        each(4, "if #{}", INT, SOLID, LOOSE);
        each(4, "if #{}else{}", INT, SOLID, LOOSE);
        each(4, "while #{}", INT, SOLID, LOOSE);
        // E is checked ahead of the BLOCKS, the first of them ahead of the second
        bad(3, "if #zz{yy;}");
        bad(4, "if #null{yy;}");
        bad(3, "if 1{#yy;}else{xx;}");
        bad(3, "if 1{}else{#xx;}");
        bad(3, "while #zz{yy;}");
        bad(3, "try{#yy;}catch{xx;}");
        bad(2, "region #'H{yy;}");
        // neither asks for LIVE
        goodClosed("if c{}while l{}c;f;");
    }

    private static void counted(int what, int want, String steps) {
        PointerHouse x = House.sound(HEADS + House.main(steps));
        House.due("program(" + what + ") of " + steps, want, x.program(what));
    }

    private static void programCounts() {
        House.sentence("program: .. places where a NULL may come: . ^ is nn and & . of a *, where BOUNDS are asked: [ ], TAGS: . of a union, but ahead of =, new, cell, row");
        String p = "var l:*'H L'H=null;var u:*'H U'H=null;var c:*'H int=null;var f:?'H int=row'H(1,1);";
        int here = House.sound(HEADS + House.main(p)).program(3);
        House.due("NULLS of none of these", 0, here);
        for (String one : new String[] {"l.v;", "l.v=1;", "&l.v;", "c^;", "c^=1;", "u is i;", "nn(l);", "nn(c);", "u.i;", "u.i=1;", "nn(l).n;"}) {
            counted(3, 1, p + one);
        }
        counted(3, 2, p + "l.n.v;");
        counted(3, 0, p + "l;c==null;if l{}f[0];size(f);l=null;o'H(c);cell'H(c);");
        String q = "var l:@'H L'H=new'H L'H{1,null};var u:@'H U'H=new'H U'H.i(1);var c:@'H int=cell'H(1);";
        counted(3, 0, q + "l.v;l.v=1;&l.v;c^;c^=1;u is i;nn(l);nn(c);u.i;u.i=1;");
        counted(4, 0, p + "l.v;c^;size(f);f+1;");
        counted(4, 4, p + "f[0];f[1]=2;&f[f[2]];");
        counted(5, 1, p + "u.i;");
        counted(5, 0, p + "u.i=1;(u.i)=2;u is i;new'H U'H.i(1);l.v;");
        counted(5, 2, p + "u.f[0]=u.i;");
        counted(5, 1, p + "u.p^=1;");
        counted(5, 1, p + "&u.f[0];");
        counted(6, 1, p);
        counted(6, 5, p + "new'H L'H{1,null};new'H U'H.i(1);cell'H(1);row'H(1,1);");
        counted(6, 4, p + "cell'H(row'H(1,cell'H(1)));");
        counted(2, 4, p);
        counted(2, 6, p + "if 1{var z:int;}else{var z:int=1;}");
        counted(0, 2, "");
        counted(1, 4, "");
        programAnswers();
    }

    private static void programAnswers() {
        PointerHouse x = new PointerHouse();
        for (int what = -1; what <= 7; what++) {
            House.due("program(" + what + ") without one", -1, x.program(what));
        }
        House.build(x, MAIN);
        int[] due = {0, 1, 0, 0, 0, 0, 0};
        for (int what = 0; what < due.length; what++) {
            House.due("program(" + what + ") of main alone", due[what], x.program(what));
        }
        for (int what : new int[] {-1, 7, 8, Integer.MIN_VALUE, Integer.MAX_VALUE}) {
            House.due("program(" + what + ")", -1, x.program(what));
        }
        House.feed(x, "fun");
        House.due("program(1) while a new text comes", 1, x.program(1));
        x.build();
        House.due("program(1) behind a FAULT", -1, x.program(1));
    }
}
