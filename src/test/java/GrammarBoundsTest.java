/** The bounds of the grammar, sentence by sentence: how many of each, and how deep in one another (promises 4 and 5). */
public final class GrammarBoundsTest {
    private static final String MAIN = "fun main(){}";
    private static final String A = "struct A{a:int;};";

    public static void main(String[] args) {
        itemsOfAProgram();
        rsOfHeads();
        rsOfUses();
        fields();
        parameters();
        funHeads();
        deadRegions();
        wherePairs();
        types();
        blocks();
        arguments();
        partsOfPrimaries();
        tails();
        vars();
        regionSteps();
        depthOfBlocks();
        depthOfExprsInSteps();
        depthOfExprs();
        depthBehindAmpersand();
        depthOfTypes();
        House.finish();
    }

    private static String list(int n, String before, String after, String between) {
        StringBuilder text = new StringBuilder();
        for (int i = 0; i < n; i++) {
            text.append(i == 0 ? "" : between).append(before).append((char) ('a' + i)).append(after);
        }
        return text.toString();
    }

    private static void itemsOfAProgram() {
        House.sentence("PROGRAM: 1 to 24 of: struct .. | union .. | fun ..");
        House.fault(1, "");
        House.fault(1, "   ");
        House.due("build of one", 1, House.build(new PointerHouse(), MAIN));
        String structs = "";
        String funs = "";
        for (int i = 0; i < 23; i++) {
            structs += (i % 2 == 0 ? "struct" : "union") + " T" + i + "{a:int;};";
            funs += "fun f" + i + "(){}";
        }
        House.due("build of 24 funs", 24, House.build(new PointerHouse(), funs + MAIN));
        PointerHouse x = House.sound(structs + MAIN);
        House.due("structs and unions of 24", 23, x.program(0));
        House.due("funs of 24", 1, x.program(1));
        for (String one : new String[] {"fun g(){}", "struct G{a:int;};", "union G{a:int;};", "fun", "struct", "union"}) {
            House.fault(1, structs + MAIN + "#" + one);
            House.fault(1, funs + MAIN + " #" + one);
        }
        House.fault(1, structs + MAIN + "#$");
        House.fault(8, structs + "fun g(){}");
        House.fault(1, MAIN + "#;");
        House.fault(1, A + "#;" + MAIN);
        House.fault(1, "struct A{a:int;}#" + MAIN);
        House.fault(1, "union A{a:int;}#");
    }

    private static void rsOfHeads() {
        House.sentence("RS: at most three REGIONS. (of heads)");
        for (String rs : new String[] {"", "'a", "'a'b", "'a'b'c", " 'a 'b 'c "}) {
            House.sound("struct T" + rs + "{a:int;};" + MAIN);
            House.sound("union T" + rs + "{a:int;};" + MAIN);
            House.sound("fun f" + rs + "(){}" + MAIN);
        }
        House.fault(1, "struct T'a'b'c#'d{a:int;};" + MAIN);
        House.fault(1, "union T'a'b'c#'d{a:int;};" + MAIN);
        House.fault(1, "fun f'a'b'c#'d(){}" + MAIN);
        House.fault(1, "fun f'a'b'c#'a(){}" + MAIN);
        House.fault(1, "struct T'a#,'b{a:int;};" + MAIN);
    }

    private static void rsOfUses() {
        House.sentence("RS: at most three REGIONS. (of a CELL, a call, new)");
        String heads = "struct T'a'b'c{a:int;};union U'a'b'c{a:int;};fun f'a'b'c(){}";
        House.sound(heads + House.main("var x:*'H T'H'H'H=null;f'H'H'H();new'H T'H'H'H{1};new'H U'H'H'H.a(1);"));
        House.fault(1, heads + House.main("var x:*'H T'H'H'H#'H=null;"));
        House.fault(1, heads + House.main("f'H'H'H#'H();"));
        House.fault(1, heads + House.main("new'H T'H'H'H#'H{1};"));
        House.fault(1, heads + House.main("new'H U'H'H'H#'H.a(1);"));
        House.fault(1, heads + "fun g(x:@'H T'H'H'H#'H){}" + MAIN);
        House.fault(1, "struct S{a:@'H S'H'H'H#'H;};" + MAIN);
        House.fault(1, "fun g():@'H S'H'H'H#'H{}" + MAIN);
    }

    private static void fields() {
        House.sentence("FIELDS: one to eight: NAME : TYPE ; .");
        for (String word : new String[] {"struct", "union"}) {
            House.fault(1, word + " T{#};" + MAIN);
            House.fault(1, word + " T{#;};" + MAIN);
            for (int n = 1; n <= 8; n++) {
                House.sound(word + " T{" + list(n, "", ":int;", "") + "};" + MAIN);
            }
            House.fault(1, word + " T{" + list(8, "", ":int;", "") + "#i:int;};" + MAIN);
            House.fault(1, word + " T{" + list(8, "", ":int;", "") + "#i};" + MAIN);
            House.fault(1, word + " T{" + list(8, "", ":int;", "") + "#;};" + MAIN);
            House.fault(1, word + " T{a:int#,b:int;};" + MAIN);
            House.fault(1, word + " T{a:int#};" + MAIN);
        }
    }

    private static void parameters() {
        House.sentence("PARAMETERS: at most six NAME : TYPE with commas between.");
        for (int n = 0; n <= 6; n++) {
            House.sound("fun f(" + list(n, "", ":int", ",") + "){}" + MAIN);
        }
        House.fault(1, "fun f(" + list(6, "", ":int", ",") + ",#g:int){}" + MAIN);
        House.fault(1, "fun f(" + list(6, "", ":int", ",") + ", #g){}" + MAIN);
        House.fault(1, "fun f(" + list(6, "", ":int", ",") + ",#){}" + MAIN);
        House.fault(1, "fun f(" + list(6, "", ":int", ",") + "#;){}" + MAIN);
        House.fault(1, "fun f(a:int,#){}" + MAIN);
        House.fault(1, "fun f(#,a:int){}" + MAIN);
        House.fault(1, "fun f(a:int #b:int){}" + MAIN);
        House.fault(1, "fun f(a#){}" + MAIN);
        House.fault(1, "fun f#{}" + MAIN);
    }

    private static void funHeads() {
        House.sentence("fun NAME RS ( PARAMETERS ), perhaps : TYPE, perhaps dead .., perhaps where .., BLOCK");
        String[] types = {"", ":int"};
        String[] deads = {"", " dead 'a"};
        String[] wheres = {"", " where 'a>'a"};
        for (String type : types) {
            for (String dead : deads) {
                for (String where : wheres) {
                    House.sound("fun f'a()" + type + dead + where + "{throw 1;}" + MAIN);
                }
            }
        }
        House.fault(1, "fun f'a() where 'a>'a #dead 'a{}" + MAIN);
        House.fault(1, "fun f'a() dead 'a#:int{}" + MAIN);
        House.fault(1, "fun f'a() dead 'a #dead 'a{}" + MAIN);
        House.fault(1, "fun f'a() where 'a>'a #where 'a>'a{}" + MAIN);
        House.fault(1, "fun f():int#:int{}" + MAIN);
        House.fault(1, "fun f()#;" + MAIN);
        House.fault(1, "fun f()");
        House.fault(1, "fun f(){}#;" + MAIN);
    }

    private static void deadRegions() {
        House.sentence("perhaps dead and one to three REGIONS");
        House.sound("fun f'a'b'c() dead 'a{}" + MAIN);
        House.sound("fun f'a'b'c() dead 'a'b{}" + MAIN);
        House.sound("fun f'a'b'c() dead 'a'b'c{}" + MAIN);
        House.fault(1, "fun f'a'b'c() dead#{}" + MAIN);
        House.fault(1, "fun f'a'b'c() dead #where 'a>'b{}" + MAIN);
        House.fault(1, "fun f'a'b'c() dead 'a'b'c#'a{}" + MAIN);
        House.fault(1, "fun f'a'b'c() dead 'a#,'b{}" + MAIN);
    }

    private static void wherePairs() {
        House.sentence("perhaps where and one to three times REGION > REGION with commas between");
        House.sound("fun f'a'b() where 'a>'b{}" + MAIN);
        House.sound("fun f'a'b() where 'a>'b,'b>'a{}" + MAIN);
        House.sound("fun f'a'b() where 'a>'b,'b>'a,'a>'a{}" + MAIN);
        House.fault(1, "fun f'a'b() where#{}" + MAIN);
        House.fault(1, "fun f'a'b() where 'a>'b,'b>'a,'a>'a,#'b>'b{}" + MAIN);
        House.fault(1, "fun f'a'b() where 'a>'b,'b>'a,'a>'a#'b>'b{}" + MAIN);
        House.fault(1, "fun f'a'b() where 'a>'b,#{}" + MAIN);
        House.fault(1, "fun f'a'b() where 'a#'b{}" + MAIN);
        House.fault(1, "fun f'a'b() where 'a>#{}" + MAIN);
        House.fault(1, "fun f'a'b() where 'a>'b#>'a{}" + MAIN);
        House.fault(1, "fun f'a'b() where 'a#<'b{}" + MAIN);
    }

    private static void types() {
        House.sentence("TYPE: int; @ REGION CELL; * REGION CELL; ? REGION TYPE. CELL: a TYPE, or TITLE RS.");
        for (String type : new String[] {"int", "@'H int", "*'H int", "?'H int", "@'H A", "*'H A", "@'H ?'H int", "?'H @'H A", "*'H *'H A",
            "?'H ?'H ?'H *'H A"}) {
            House.sound(A + "struct B{a:" + type + ";};" + MAIN);
            House.sound(A + "fun f(a:" + type + "):" + type + "{return a;}" + MAIN);
            House.sound(A + House.main("var a:" + type + ";"));
        }
        for (String type : new String[] {"#A", "#a", "#'H", "@#int", "*#A", "?#;", "?'H #A", "@'H#", "*'H ?'H #A", "#null", "#&'H int"}) {
            House.fault(1, A + "struct B{a:" + type + ";};" + MAIN);
            House.fault(1, A + House.main("var a:" + type + ";"));
        }
        House.fault(1, A + "struct B{a:int#'H;};" + MAIN);
    }

    private static void blocks() {
        House.sentence("BLOCK: {, STEPS, }. (any number of them, also none)");
        House.sound(MAIN);
        House.sound(House.main("if 1{}if 1{}else{}while 0{}region 'a{}try{}catch{}"));
        House.stands("fun main(){" + House.times(1990, "1;") + "}");
        House.fault(1, "fun main(){");
        House.fault(1, "fun main(){1;");
        House.fault(1, "fun main(){1#}");
        House.fault(1, "fun main(){}#}");
        House.fault(1, House.main("#{}"));
        House.fault(1, House.main("#;"));
        House.fault(1, House.main("if 1 #1;"));
        House.fault(1, House.main("if 1{}else #if 1{}"));
        House.fault(1, House.main("while 1{}#else{}"));
        House.fault(1, House.main("if 1{}else{}#else{}"));
        House.fault(1, House.main("try{}#1;"));
        House.fault(1, House.main("try{}catch{}#catch{}"));
        House.fault(1, House.main("var x:int=1#=2;"));
        House.fault(1, House.main("var x:int=1;x=2#=3;"));
        House.fault(1, House.main("return 1#,2;"));
        House.fault(1, House.main("close 'a#'b;"));
        House.fault(1, House.main("region 'a#'b{}"));
    }

    private static String numbers(int n) {
        StringBuilder text = new StringBuilder();
        for (int i = 1; i <= n; i++) {
            text.append(i == 1 ? "" : ",").append(i);
        }
        return text.toString();
    }

    private static void arguments() {
        House.sentence("ARGUMENTS: at most eight EXPRS with commas between.");
        for (int n = 0; n <= 8; n++) {
            House.stands(House.main("f(" + numbers(n) + ");"));
            House.stands(House.main("new'H T{" + numbers(n) + "};"));
        }
        House.sound("struct T{" + list(8, "", ":int;", "") + "};" + House.main("new'H T{" + numbers(8) + "};"));
        for (String ninth : new String[] {"9", "x", "(9)", "new'H T{}", "&x.y", "null"}) {
            House.fault(1, House.main("f(" + numbers(8) + ",#" + ninth + ");"));
            House.fault(1, House.main("new'H T{" + numbers(8) + ", #" + ninth + "};"));
        }
        House.fault(1, House.main("f(" + numbers(8) + ",#);"));
        House.fault(1, House.main("f(" + numbers(8) + " #9);"));
        House.fault(1, House.main("f(1,#);"));
        House.fault(1, House.main("f(#,1);"));
        House.fault(1, House.main("f(1#};"));
        House.fault(1, House.main("new'H T{1#);"));
        House.fault(1, House.main("new'H T{1,#};"));
        // each list has its own count
        House.stands(House.main("f(" + numbers(7) + ",g(" + numbers(8) + "));"));
    }

    private static void partsOfPrimaries() {
        House.sentence("new REGION TITLE RS . NAME ( EXPR ) | cell REGION ( EXPR ) | row REGION ( EXPR , EXPR ) | nn ( EXPR ) | size ( EXPR )");
        for (String one : new String[] {"new'H T.a", "cell'H", "nn", "size", ""}) {
            House.stands(House.main(one + "(1);"));
            House.fault(1, House.main(one + "(#);"));
            House.fault(1, House.main(one + "(1#,2);"));
            House.fault(1, House.main(one + "(1#;"));
        }
        House.stands(House.main("row'H(1,2);"));
        House.fault(1, House.main("row'H(#);"));
        House.fault(1, House.main("row'H(1#);"));
        House.fault(1, House.main("row'H(1,#);"));
        House.fault(1, House.main("row'H(1,2#,3);"));
        for (String word : new String[] {"cell", "row", "new"}) {
            House.fault(1, House.main(word + "#(1,2);"));
            House.fault(1, House.main(word + "'H#'H(1,2);"));
        }
        House.fault(1, House.main("nn#'H(1);"));
        House.fault(1, House.main("size#'H(1);"));
        House.fault(1, House.main("new'H T#(1);"));
        House.fault(1, House.main("new'H T.a#{1};"));
        House.fault(1, House.main("new'H T.#1(1);"));
        House.fault(1, House.main("read#(1);"));
        House.fault(1, House.main("caught#(1);"));
        House.fault(1, House.main("null#(1);"));
        House.fault(1, House.main("1#(1);"));
        House.fault(1, House.main("f(1)#(1);"));
    }

    private static void tails() {
        House.sentence("TERM: a PRIMARY, then any number of: . NAME | [ EXPR ] | ^ | is NAME");
        House.stands(House.main("x;"));
        House.stands(House.main("x" + House.times(600, ".a[1]^") + ";"));
        House.stands(House.main("x" + House.times(600, " is a") + ";"));
        House.stands(House.main("f().a;null^;1.a;(1)^;cell'H(1)^;new'H T{}.a;nn(x).a;read is a;"));
        House.fault(1, House.main("x.#;"));
        House.fault(1, House.main("x.#1;"));
        House.fault(1, House.main("x.#A;"));
        House.fault(1, House.main("x.a#(1);"));
        House.fault(1, House.main("x[#];"));
        House.fault(1, House.main("x[1#,2];"));
        House.fault(1, House.main("x is #1;"));
        House.fault(1, House.main("#.a;"));
        House.fault(1, House.main("#^;"));
        House.fault(1, House.main("1 #is2;"));
        House.fault(1, House.main("1+#+2;"));
        House.fault(1, House.main("#+1;"));
        House.fault(1, House.main("1+#;"));
        House.stands(House.main("1" + House.times(300, "+1-1*1/1%1") + "==1<1;"));
    }

    private static void vars() {
        House.sentence("A fun has at most 20 parameters and vars");
        for (int parameters = 0; parameters <= 6; parameters++) {
            String head = "fun f(" + list(parameters, "p", ":int", ",") + "){";
            String vars = list(20 - parameters, "var v", ":int;", "");
            House.sound(head + vars + "}" + MAIN);
            House.fault(1, head + vars + "var #x:int;}" + MAIN);
            House.fault(1, head + vars + "if 1{while 1{var #x:int=1;}}}" + MAIN);
            House.fault(1, head + vars + "return;var #x:int;}" + MAIN);
        }
        // those that can't be seen any more count, too
        House.sound(House.main(House.times(20, "if 1{var x:int;}")));
        House.fault(1, House.main(House.times(20, "if 1{var x:int;}") + "if 1{var #x:int;}"));
        House.fault(1, House.main(House.times(10, "if 1{var x:int;}else{var x:int;}") + "var #x:int;"));
        // each fun has its own
        String twenty = list(20, "var v", ":int;", "");
        House.sound("fun f(){" + twenty + "}fun g(a:int,b:int){" + list(18, "var v", ":int;", "") + "}" + House.main(twenty));
        House.fault(1, "fun f(){" + twenty + "}" + House.main(twenty + "var #z:int;"));
        House.fault(1, House.main(twenty + "var #1:int;"));
    }

    private static void regionSteps() {
        House.sentence("A fun has at most .. 8 region STEPS");
        String eight = House.times(8, "region 'a{}");
        House.sound(House.main(eight));
        House.fault(1, House.main(eight + "#region 'a{}"));
        House.fault(1, House.main(eight + "1; #region"));
        House.fault(1, House.main(eight + "if 1{#region 'a{}}"));
        String nested = list(8, "region '", "{", "");
        House.sound(House.main(nested + House.times(8, "}")));
        House.fault(1, House.main(nested + "#region 'i{" + House.times(9, "}")));
        House.fault(1, House.main(nested + House.times(8, "}") + "#region 'i{}"));
        House.fault(1, House.main(list(4, "region '", "{", "") + House.times(4, "}") + list(4, "region '", "{", "") + "#region 'z{}" + "}}}}"));
        House.sound("fun f(){" + eight + "}fun g(){" + eight + "}" + House.main(eight));
        House.fault(1, "fun f(){" + eight + "}" + House.main(eight + "#region 'a{}"));
        // close is none
        House.sound(House.main(House.times(8, "region 'a{close 'a;}")));
    }

    private static String nested(int n, String before, String after, String inner) {
        return House.times(n, before) + inner + House.times(n, after);
    }

    private static void depthOfBlocks() {
        House.sentence("EXPRS and BLOCKS lie at most 20 in one another (a fun's BLOCK is 1; a BLOCK of a STEP one more than the BLOCK around)");
        String[][] around = {{"if 1{", "}"}, {"if 1{}else{", "}"}, {"while 1{", "}"}, {"try{", "}catch{}"}, {"try{}catch{", "}"}};
        for (String[] one : around) {
            House.sound(House.main(nested(19, one[0], one[1], "")));
            House.sound(House.main(nested(19, one[0], one[1], "return;")));
            House.sound(House.main(nested(19, one[0], one[1], "var x:int;")));
            House.sound(House.main(nested(18, one[0], one[1], "print 1;region 'a{close 'a;}try{}catch{}")));
            House.fault(1, House.main(nested(19, one[0], one[1], "region 'a#{}")));
            House.fault(1, House.main(nested(19, one[0], one[1], "try#{}catch{}")));
            House.fault(1, House.main(nested(19, one[0], one[1], "if #1{}")));
            House.fault(1, House.main(nested(19, one[0], one[1], "while #1{}")));
        }
        House.fault(1, "fun main(){" + House.times(19, "try{") + "try#{");
        // the second BLOCK of if and try is as deep as the first
        House.sound(House.main(nested(18, "if 1{", "}", "if 1{}else{}try{}catch{}")));
        String regions = list(8, "region '", "{", "") + House.times(11, "try{");
        String ends = House.times(11, "}catch{}") + House.times(8, "}");
        House.sound(House.main(regions + ends));
        House.fault(1, House.main(regions + "try#{}catch{}" + ends));
        // it begins at 1 again behind each BLOCK, and in each fun
        House.sound("fun f(){" + nested(19, "if 1{", "}", "") + nested(19, "if 1{", "}", "") + "}" + House.main(nested(19, "if 1{", "}", "")));
    }

    private static void depthOfExprsInSteps() {
        House.sentence("an EXPR of one of its STEPS 2");
        String[] steps = {"var x:int=#1;", "if #1{}", "while #1{}", "return #1;", "print #1;", "throw #1;", "#1=1;", "#1;", "#f();", "#new'H T{};"};
        for (String step : steps) {
            House.fault(1, House.main(nested(19, "if 1{", "}", step)));
            House.stands(House.main(nested(18, "if 1{", "}", step.replace("#", ""))));
        }
        House.fault(1, House.main(nested(18, "if 1{", "}", "x=(#1);")));
        House.stands(House.main(nested(17, "if 1{", "}", "x=(1);(x)=1;")));
        House.stands(House.main(nested(18, "if 1{", "}", "x=1;")));
    }

    private static void depthOfExprs() {
        House.sentence("an EXPR in ( ), [ ] or { } .. one more than the EXPR around");
        // what stands around, and where the first EXPR in it begins
        String[][] around = {{"(", ")", "(#1)"}, {"x[", "]", "x[#1]"}, {"new'H T{", "}", "new'H T{#1}"}, {"new'H T{1,", "}", "new'H T{#1,1}"},
            {"new'H T.a(", ")", "new'H T.a(#1)"}, {"f(", ")", "f(#x)"}, {"f(1,", ",1)", "f(#1,1)"}, {"f'H(", ")", "f'H(#x)"},
            {"cell'H(", ")", "cell'H(#1)"}, {"row'H(", ",1)", "row'H(#1,1)"}, {"row'H(1,", ")", "row'H(#1,x)"}, {"nn(", ")", "nn(#x)"},
            {"size(", ")", "size(#x)"}, {"1+(", ")", "1+(#1)"}, {"x.a[", "]", "x.a[#1]"}};
        for (String[] one : around) {
            House.stands(House.main(nested(18, one[0], one[1], "1") + ";"));
            House.stands(House.main(nested(18, one[0], one[1], "1+2*x.a^ is b") + ";"));
            House.fault(1, House.main(nested(18, one[0], one[1], one[2]) + ";"));
            House.stands(House.main(nested(17, "(", ")", one[2].replace("#", "")) + ";"));
            House.fault(1, House.main(nested(18, "(", ")", one[2]) + ";"));
            House.fault(1, House.main(nested(17, "(", ")", one[0] + "(#1)" + one[1]) + ";"));
            House.fault(1, House.main(nested(16, "(", ")", one[0] + "1+(1+(#1))" + one[1]) + ";"));
        }
        // without ARGUMENTS there is no EXPR in it
        for (String one : new String[] {"f()", "f'H()", "new'H T{}", "read", "null", "caught", "1", "x.a.b^", "x is a"}) {
            House.stands(House.main(nested(18, "(", ")", one) + ";"));
            House.fault(1, House.main(nested(19, "(", ")", "#" + one) + ";"));
        }
        // what stands behind one another, not in one another, is no deeper
        House.stands(House.main("print " + House.times(300, "(1)+") + "1;"));
        House.stands(House.main("x" + House.times(300, "[1]") + ";"));
    }

    private static void depthBehindAmpersand() {
        House.sentence("the TERM behind & one more than the EXPR around");
        House.stands(House.main(House.times(18, "&") + "x;"));
        House.fault(1, House.main(House.times(19, "&") + "#x;"));
        House.fault(1, House.main(House.times(19, "&") + "#&x;"));
        House.stands(House.main(nested(17, "(", ")", "&x.a") + ";"));
        House.fault(1, House.main(nested(18, "(", ")", "&#x.a") + ";"));
        House.stands(House.main(nested(16, "(", ")", "&x[1]") + ";"));
        House.fault(1, House.main(nested(17, "(", ")", "&x[#1]") + ";"));
        House.stands(House.main(nested(16, "(", ")", "&(x.a)") + ";"));
        House.fault(1, House.main(nested(17, "(", ")", "&(#x.a)") + ";"));
        // behind the & it is as before
        House.stands(House.main(nested(17, "(", ")", "&x.a+(1)") + ";"));
        House.fault(1, House.main(nested(17, "(", ")", "&x.a+(1+(#1))") + ";"));
    }

    private static void depthOfTypes() {
        House.sentence("TYPES at most 6 (a CELL, and the TYPE of a row, are one more)");
        String[] places = {"struct B{a:~;};" + MAIN, "union B{a:int;b:~;};" + MAIN, "fun f(a:~){}" + MAIN, "fun f(a:int,b:~){}" + MAIN,
            "fun f():~{throw 1;}" + MAIN, "fun main(){var x:~;}", "fun main(){if 1{var x:~;}}"};
        for (String place : places) {
            for (String sign : new String[] {"@'H ", "*'H ", "?'H "}) {
                House.sound(A + place.replace("~", House.times(5, sign) + "int"));
                House.fault(1, A + place.replace("~", House.times(6, sign) + "#int"));
                House.fault(1, A + place.replace("~", House.times(6, sign) + "#" + sign + "int"));
            }
            House.sound(A + place.replace("~", "@'H *'H ?'H @'H *'H int"));
            House.fault(1, A + place.replace("~", "@'H *'H ?'H @'H *'H ?'H #int"));
            House.sound(A + place.replace("~", "@'H *'H ?'H ?'H *'H A"));
            House.fault(1, A + place.replace("~", "@'H *'H ?'H ?'H @'H *'H #A"));
            House.fault(1, A + place.replace("~", "@'H *'H ?'H ?'H @'H ?'H #A"));
        }
        // of what an EXPR gives there is no such bound
        House.sound(House.main(nested(10, "cell'H(", ")", "1") + ";"));
        House.sound(House.main("print " + nested(10, "cell'H(", ")", "1") + House.times(10, "^") + ";"));
    }
}
