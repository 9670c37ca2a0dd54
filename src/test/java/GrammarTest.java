/** Promises 4 and 5: build and fault, for FAULT 1 and what the text may hold. */
public final class GrammarTest {
    private static final String MAIN = "fun main(){}";

    public static void main(String[] args) {
        tokens();
        programs();
        heads();
        steps();
        exprs();
        tooMany();
        tooDeep();
        firstOfAll();
        House.finish();
    }

    private static void tokens() {
        House.sound(MAIN);
        House.sound("  fun  main ( ) { }  ");
        House.fault(1, "fun main(){}#\n");
        House.fault(1, "fun main(){#$}");
        House.fault(1, "fun main(){var #abcdefghi:int;}");
        House.sound("fun main(){var abcdefgh:int;}");
        House.fault(1, "fun main(){var #aB:int;}");
        House.fault(1, "fun main(){var #A:int;}");
        House.fault(1, "fun main(){var #1a:int;}");
        House.fault(1, "fun main(){var #size:int;}");
        House.sound("fun main(){var sizes:int;var if1:int;var int2:int;}");
        House.sound("fun main(){999999999;}");
        House.fault(1, "fun main(){#1234567890;}");
        House.fault(1, "fun main(){#12a;}");
        House.sound("struct ABcd1234{a:int;};" + MAIN);
        House.fault(1, "struct #ABcd12345{a:int;};" + MAIN);
        House.fault(1, "struct #a{a:int;};" + MAIN);
        House.sound("fun main(){region 'abcdefg8{}}");
        House.fault(1, "fun main(){region #'abcdefgh9{}}");
        House.fault(1, "fun main(){region #'{}}");
        House.fault(1, "fun main(){region #' a{}}");
        House.fault(1, "fun main(){region #'1{}}");
        House.fault(1, "fun main(){region #'Ha{}}");
        House.fault(1, "fun main(){region #'A{}}");
        House.fault(1, "fun main(){region #''a{}}");
        House.sound("fun main(){region 'int{}}");
        House.sound("fun main(){print 1==1;}");
        House.fault(1, "fun main(){print 1#= =1;}");
        House.sound("fun f'a(x:@'a int):int{return x^;}fun main(){print f'H(cell'H(3));}");
    }

    private static void programs() {
        House.fault(1, "");
        House.fault(1, "    ");
        House.fault(1, "#main(){}");
        House.fault(1, MAIN + "#;");
        House.fault(1, MAIN + " #x");
        House.fault(1, "fun");
        House.fault(1, "fun ");
        House.fault(1, "fun main(){  ");
        House.fault(1, "struct A{a:int;}#fun main(){}");
        House.fault(1, "struct A{#};" + MAIN);
        House.fault(1, "struct A{a:int#};" + MAIN);
        House.fault(1, "union U{a#;};" + MAIN);
        House.fault(1, "struct A{a:#A;};" + MAIN);
        PointerHouse x = new PointerHouse();
        House.due("build of three", 3, House.build(x, "struct A{a:int;};union U{a:int;};" + MAIN));
        House.due("fault(0) without one", 0, x.fault(0));
        House.due("fault(1) without one", -1, x.fault(1));
        House.due("fault(2)", -1, x.fault(2));
        House.due("fault(-1)", -1, x.fault(-1));
        House.due("build of the empty text behind it", -1, x.build());
        House.due("then there is no program", -1, x.program(0));
        House.due("nor one to start", false, x.start(4, 4));
        House.due("its fault", 1, x.fault(0));
    }

    private static void heads() {
        House.sound("fun f'a'b'c(x:int,y:int):int dead 'a'b'c where 'a>'b,'b>'c,'a>'a{return 1;}" + MAIN);
        House.fault(1, "fun f'a'b'c#'d(){}" + MAIN);
        House.fault(1, "fun f(x:int,#){}" + MAIN);
        House.fault(1, "fun f(#,x:int){}" + MAIN);
        House.fault(1, "fun f(x#){}" + MAIN);
        House.fault(1, "fun f():#{}" + MAIN);
        House.fault(1, "fun f'a() dead #{}" + MAIN);
        House.fault(1, "fun f'a() where #{}" + MAIN);
        House.fault(1, "fun f'a() where 'a#{}" + MAIN);
        House.fault(1, "fun f'a() where 'a>#{}" + MAIN);
        House.fault(1, "fun f'a() where 'a>'a#'a>'a{}" + MAIN);
        House.fault(1, "fun f'a() where 'a>'a #dead 'a{}" + MAIN);
        House.fault(1, "fun f'a() dead 'a#,'a{}" + MAIN);
        House.fault(1, "fun f(x:@#int){}" + MAIN);
        House.fault(1, "fun f(x:#A){}" + MAIN);
        House.fault(1, "struct A{a:int;};fun f(x:?'H #A){}" + MAIN);
        House.sound("struct A{a:int;};fun f(x:@'H A,y:*'H A,z:?'H *'H A){}" + MAIN);
    }

    private static void steps() {
        House.fault(1, House.main("var #;"));
        House.fault(1, House.main("var x#;"));
        House.fault(1, House.main("var x:int#:int;"));
        House.fault(1, House.main("if #{}"));
        House.fault(1, House.main("if 1#;"));
        House.fault(1, House.main("#else{}"));
        House.fault(1, House.main("while 1{}#else{}"));
        House.fault(1, "fun main(){return#}");
        House.fault(1, House.main("print #;"));
        House.fault(1, House.main("throw #;"));
        House.fault(1, House.main("region #a{}"));
        House.fault(1, House.main("region 'a#;"));
        House.fault(1, House.main("close #;"));
        House.fault(1, House.main("close 'a#{}"));
        House.fault(1, House.main("try{}#"));
        House.fault(1, House.main("try{}catch#;"));
        House.fault(1, House.main("#catch{}"));
        House.fault(1, House.main("#;"));
        House.fault(1, House.main("#{}"));
        House.fault(1, House.main("1 #1;"));
        House.fault(1, House.main("var x:int;x=1#=2;"));
        House.sound(House.main("var x:int=1;if x{}else{}while 0{}return;"));
    }

    private static void exprs() {
        House.fault(1, House.main("1+#;"));
        House.fault(1, House.main("#-1;"));
        House.fault(1, House.main("1#>2;"));
        House.fault(1, House.main("1.#1;"));
        House.fault(1, House.main("1[#];"));
        House.fault(1, House.main("1[1#;"));
        House.fault(1, House.main("1 is #int;"));
        House.fault(1, House.main("f'a#;"));
        House.fault(1, House.main("f(1,#);"));
        House.fault(1, House.main("f(1#;"));
        House.fault(1, House.main("(#);"));
        House.fault(1, House.main("(1#;"));
        House.fault(1, House.main("&#;"));
        House.fault(1, House.main("nn #1;"));
        House.fault(1, House.main("nn(#);"));
        House.fault(1, House.main("size(1#,1);"));
        House.fault(1, House.main("cell#(1);"));
        House.fault(1, House.main("row'H(1#);"));
        House.fault(1, House.main("row'H(1,1#,1);"));
        House.fault(1, House.main("new #A{};"));
        House.fault(1, House.main("new'H #{};"));
        House.fault(1, House.main("new'H A#;"));
        House.fault(1, House.main("new'H A.#(1);"));
        House.fault(1, House.main("new'H A.a(#);"));
        House.fault(1, House.main("new'H A.a(1#,1);"));
        House.fault(1, House.main("new'H A'a'b'c#'d{};"));
        House.sound(House.main("1+2-3*4/5%6==7<8;(1);((1))+(2);"));
    }

    private static void tooMany() {
        House.sound(items(24));
        House.fault(1, items(24) + "#fun g(){}");
        House.fault(1, items(24) + " #struct Z{a:int;};");
        House.sound("struct A{a:int;b:int;c:int;d:int;e:int;f:int;g:int;h:int;};" + MAIN);
        House.fault(1, "struct A{a:int;b:int;c:int;d:int;e:int;f:int;g:int;h:int;#i:int;};" + MAIN);
        House.sound("fun f(a:int,b:int,c:int,d:int,e:int,g:int){}" + MAIN);
        House.fault(1, "fun f(a:int,b:int,c:int,d:int,e:int,g:int,#h:int){}" + MAIN);
        House.fault(1, "fun f'a'b() where 'a>'b,'a>'b,'a>'b,#'a>'b{}" + MAIN);
        House.fault(1, "fun f'a'b'c() dead 'a'b'c#'a{}" + MAIN);
        House.fault(1, House.main("f(1,2,3,4,5,6,7,8,#9);"));
        House.fault(7, "fun f(){}" + House.main("#f(1,2,3,4,5,6,7,8);"));
        House.fault(1, House.main("f(1,2,3,4,5,6,7,8,#(9));"));
        House.sound(House.main(vars(20)));
        House.fault(1, House.main(vars(20) + "var #z:int;"));
        House.sound("fun f(p:int,q:int){" + vars(18) + "}" + MAIN);
        House.fault(1, "fun f(p:int,q:int){" + vars(18) + "if 1{var #z:int;}}" + MAIN);
        String regions = House.times(8, "region 'a{}");
        House.sound(House.main(regions));
        House.fault(1, House.main(regions + "#region 'b{}"));
        House.sound("fun f(){" + regions + "}" + House.main(regions));
    }

    private static String items(int n) {
        StringBuilder text = new StringBuilder();
        for (int i = 1; i < n; i++) {
            text.append("struct A").append(i).append("{a:int;};");
        }
        return text.append(MAIN).toString();
    }

    private static String vars(int n) {
        StringBuilder text = new StringBuilder();
        for (int i = 0; i < n; i++) {
            text.append("var v").append(i).append(":int;");
        }
        return text.toString();
    }

    private static void tooDeep() {
        // the fun's BLOCK is 1, the EXPR of a STEP 2, so that 18 parentheses reach 20
        House.sound(House.main(House.times(18, "(") + "1" + House.times(18, ")") + ";"));
        House.fault(1, House.main(House.times(19, "(") + "#1" + House.times(19, ")") + ";"));
        House.fault(1, House.main(House.times(19, "(") + "#(1)" + House.times(19, ")") + ";"));
        // 19 BLOCKS of ifs reach 20; the EXPR of the innermost one is 20, too
        House.sound(House.main(House.times(19, "if 1{") + House.times(19, "}")));
        House.sound(House.main(House.times(19, "if 1{") + "return;" + House.times(19, "}")));
        House.fault(1, House.main(House.times(19, "if 1{") + "#1;" + House.times(19, "}")));
        House.fault(1, House.main(House.times(19, "if 1{") + "if #1{}" + House.times(19, "}")));
        House.fault(1, House.main(House.times(19, "if 1{}else{") + "#1;" + House.times(19, "}")));
        House.fault(1, House.main(House.times(19, "try{}catch{") + "#1;" + House.times(19, "}")));
        House.fault(1, House.main(House.times(19, "while 1{") + "#1;" + House.times(19, "}")));
        House.fault(1, House.main(House.times(19, "if 1{") + "try#{}catch{}" + House.times(19, "}")));
        House.fault(1, House.main(House.times(19, "if 1{") + "region 'a#{}" + House.times(19, "}")));
        // a call without ARGUMENTS has no EXPR in it
        String f = "fun f():int{return 1;}";
        House.sound(f + House.main(House.times(18, "(") + "f()" + House.times(18, ")") + ";"));
        House.fault(1, f + House.main(House.times(18, "(") + "f(#1)" + House.times(18, ")") + ";"));
        House.fault(1, House.main(House.times(18, "(") + "&#x.y" + House.times(18, ")") + ";"));
        House.fault(1, House.main(House.times(17, "(") + "&x[#1]" + House.times(17, ")") + ";"));
        House.fault(3, House.main(House.times(17, "(") + "&#x.y" + House.times(17, ")") + ";"));
        House.sound(House.main("var x:@'H @'H @'H @'H @'H int;"));
        House.fault(1, House.main("var x:@'H @'H @'H @'H @'H @'H #int;"));
        House.fault(1, House.main("var x:?'H ?'H ?'H ?'H ?'H ?'H #int;"));
        House.sound("struct A{a:int;};" + House.main("var x:@'H @'H @'H @'H @'H A;"));
        House.fault(1, "struct A{a:int;};" + House.main("var x:@'H @'H @'H @'H @'H @'H #A;"));
    }

    private static void firstOfAll() {
        // a 1 comes first, wherever it stands
        House.fault(1, "struct A{a:@'z B;a:int;};fun main(){print x#}");
        House.fault(2, "struct A{a:int;#a:int;};fun main(){print x;}");
    }
}
