/** Promises 4 and 5: the FAULTS of the BLOCKS. */
public final class BlocksTest {
    private static final String LIST = "struct L'r{v:int;n:*'r L'r;};union U'r{i:int;p:*'r int;f:?'r int;};";

    public static void main(String[] args) {
        names();
        places();
        objects();
        calls();
        operators();
        fitting();
        givenValues();
        knownVars();
        unreached();
        regions();
        closing();
        outliving();
        steps();
        order();
        House.finish();
    }

    private static void bad(int kind, String steps) {
        House.fault(kind, LIST + House.main(steps));
    }

    private static void good(String steps) {
        House.sound(LIST + House.main(steps));
    }

    private static void names() {
        bad(3, "print #x;");
        bad(3, "#x=1;");
        bad(3, "var x:int=#x;");
        bad(3, "if 1{var x:int=1;}print #x;");
        bad(2, "var x:int;var #x:int;");
        bad(2, "var x:int;if 1{var #x:int;}");
        good("if 1{var x:int;}else{var x:int;}var x:int;");
        bad(4, "var x:int;var x:int=#null;");
        bad(3, "var x:int;var x:@#'z int;");
        House.fault(2, "fun f(x:int){var #x:int;}fun main(){}");
        good("var main:int=1;print main;");
        bad(8, "print #caught;");
        bad(8, "try{print #caught;}catch{}");
        good("try{}catch{print caught;if 1{try{print caught;}catch{}}}");
        bad(8, "try{}catch{}print #caught;");
    }

    private static void places() {
        good("var l:*'H L'H=null;print l.v;l.v=1;l.n=l;print l.n.n.v;");
        bad(4, "#1.v;");
        bad(4, "#null.v;");
        bad(4, "#cell'H(1).v;");
        bad(4, "#row'H(1,1).v;");
        bad(3, "new'H L'H{1,null}.#w;");
        bad(4, "#new'H L'H{1,null}^;");
        good("print cell'H(1)^;cell'H(1)^=2;");
        bad(4, "#1^;");
        bad(4, "#null^;");
        bad(4, "#row'H(1,1)^;");
        good("row'H(2,3)[1]=row'H(1,2)[0];");
        bad(4, "#1[2];");
        bad(4, "#cell'H(1)[2];");
        bad(4, "row'H(1,1)[#null];");
        bad(3, "1[#x];");
        good("print new'H U'H.i(3) is p;");
        bad(4, "#new'H L'H{1,null} is v;");
        bad(4, "#1 is v;");
        bad(4, "#null is v;");
        bad(3, "new'H U'H.i(3) is #v;");
        good("var a:@'H int=&new'H L'H{1,null}.v;var b:@'H *'H L'H=&new'H L'H{1,null}.n;");
        good("var a:@'H int=&(row'H(2,2)[1]);a=&((new'H L'H{1,null}).v);");
        bad(4, "&#new'H U'H.i(3).i;");
        bad(3, "&new'H U'H.i(3).#z;");
        bad(4, "&#1;");
        bad(4, "&#zz;");
        bad(4, "&(#zz+yy);");
        bad(4, "&#zz.v^;");
        bad(4, "&#zz.v is w;");
        bad(3, "&#zz.v;");
        bad(4, "nn(#1);");
        bad(4, "nn(#null);");
        bad(4, "nn(#row'H(1,1));");
        good("print nn(cell'H(1))^;");
        bad(4, "size(#1);");
        bad(4, "size(#cell'H(1));");
        good("print size(row'H(1,1)+1);");
        // where an EXPR begins, parentheses around it don't count
        bad(4, "((#1)).v;");
        bad(4, "(#1+2).v;");
        bad(4, "print ((#null));");
        bad(4, "(#1+2)[0]=5;");
    }

    private static void objects() {
        bad(3, "cell#'z(1);");
        bad(4, "cell'H(#null);");
        bad(4, "cell'H(#main());");
        bad(3, "row#'z(1,1);");
        bad(4, "row'H(#null,x);");
        bad(4, "row'H(1,#null);");
        bad(4, "row'H(1,#main());");
        bad(3, "new#'z A{};");
        bad(3, "new'H #A{};");
        bad(7, "new'H #L{};");
        bad(7, "new'H #L'H'H{};");
        bad(3, "new'H L#'z{};");
        bad(7, "new'H L'H#.v(1);");
        bad(7, "new'H U'H#{1};");
        bad(7, "new'H #L'H{};");
        bad(7, "new'H #L'H{1};");
        bad(7, "new'H #L'H{1,null,x};");
        bad(3, "new'H U'H.#v(1);");
        bad(4, "new'H L'H{#null,x};");
        bad(4, "new'H L'H{1,#2};");
        bad(4, "new'H U'H.i(#null);");
        bad(4, "new'H U'H.f(#null);");
        good("var u:@'H U'H=new'H U'H.p(null);u=new'H U'H.f(row'H(1,1));");
    }

    private static void calls() {
        String funs = "fun f'a'b(x:*'a int,y:int):*'b int{return null;}fun g(){}";
        String head = funs + "fun main(){region 'u{region 'v{";
        House.sound(head + "f'u'v(null,1);g();var p:*'v int=f'u'v(cell'u(1),2);close 'v;}}}");
        House.fault(3, head + "#h();}}}");
        House.fault(7, head + "#f(null,1);}}}");
        House.fault(7, head + "#f'u(null,1);}}}");
        House.fault(7, head + "#f'u'v'u(null,1);}}}");
        House.fault(7, head + "#f'w(null);}}}");
        House.fault(3, head + "f'u#'w(null);}}}");
        House.fault(7, head + "#f'u'v(null);}}}");
        House.fault(7, head + "#f'u'v(null,1,x);}}}");
        House.fault(7, head + "#g(1);}}}");
        House.fault(4, head + "f'u'v(#1,x);}}}");
        House.fault(4, head + "f'u'v(null,#null);}}}");
        House.fault(5, head + "f'u'v(#cell'v(1),1);}}}");
        House.fault(4, head + "print #g();}}}");
        House.fault(5, head + "close 'v;f'u#'v(null,1);}}}");
        House.fault(4, head + "close 'v;f'u'v(null,#null);}}}");
        String where = "fun f'a'b'c() dead 'c where 'b>'c,'a>'b{}";
        House.sound(where + "fun main(){region 'u{region 'v{f'H'u'v();f'u'u'u();close 'v;f'H'u'v();}}}");
        House.fault(5, where + "fun main(){region 'u{region 'v{f'H#'v'u();}}}");
        House.fault(5, where + "fun main(){region 'u{region 'v{f#'v'u'v();}}}");
        House.fault(5, where + "fun main(){region 'u{region 'v{close 'v;f'H#'v'v();}}}");
        House.fault(5, where + "fun main(){region 'u{f'H#'u'H();}}");
    }

    private static void operators() {
        good("print 1+2-3*4/5%6==7<8;");
        good("var f:?'H int=row'H(3,1)+1+2;print (f+0)[0];");
        bad(4, "#row'H(3,1)-1;");
        bad(4, "#row'H(3,1)+null;");
        bad(4, "1+#row'H(3,1);");
        bad(4, "#row'H(1,1)==row'H(1,1);");
        bad(4, "#null+1;");
        bad(4, "1+#null;");
        bad(4, "#null<null;");
        bad(4, "1==#null;");
        bad(4, "#null==1;");
        bad(4, "#main()==main();");
        bad(4, "1+2+#null;");
        bad(4, "#row'H(3,1)+1*2;");
        good("print null==null;print cell'H(1)==null;print null==cell'H(1);");
        good("var p:*'H int=null;print p==cell'H(1);print cell'H(2)==p;");
        bad(4, "cell'H(1)==#cell'H(cell'H(1));");
        bad(4, "cell'H(1)==#new'H L'H{1,null};");
        good("region 'a{print cell'H(1)==cell'a(1);region 'b{print cell'b(1)==cell'a(1);}}");
        House.fault(4, "fun f'a'b(x:@'a int,y:@'b int):int{return x==#y;}fun main(){}");
        House.sound("fun f'a'b(x:@'a int,y:@'b int):int where 'b>'a{return x==y;}fun main(){}");
        bad(5, "region 'a{var p:@'a int=cell'a(1);close 'a;print #p==cell'H(1);}");
        bad(5, "region 'a{var p:@'a int=cell'a(1);close 'a;print cell'H(1)==#p;}");
        good("region 'a{var p:@'a int=cell'a(1);close 'a;print p==null;}");
    }

    private static void fitting() {
        bad(4, "var x:int=#null;");
        bad(4, "var x:@'H int=#null;");
        bad(4, "var x:?'H int=#null;");
        bad(4, "var x:int=#main();");
        bad(4, "var x:@'H int=#1;");
        bad(4, "var x:int=#cell'H(1);");
        bad(4, "var p:*'H int=#read+0;");
        bad(4, "var x:@'H int=#row'H(1,1);");
        bad(4, "var x:?'H int=#cell'H(1);");
        bad(4, "var x:@'H @'H int=#cell'H(1);");
        bad(4, "var x:@'H *'H int=#cell'H(cell'H(1));");
        good("var x:*'H @'H int=cell'H(cell'H(1));");
        good("region 'a{var x:@'a int=cell'H(1);var y:*'a int=x;var z:?'a int=row'H(1,1);}");
        bad(5, "region 'a{var x:@'H int=#cell'a(1);}");
        bad(5, "region 'a{var x:?'H int=#row'a(1,1);}");
        bad(4, "region 'a{var x:@'a L'a=#new'a L'H{1,null};}");
        bad(4, "region 'a{var x:@'a ?'a int=#cell'a(row'H(1,1));}");
        bad(4, "region 'a{var x:@'H @'H int=#cell'a(cell'a(1));}");
        House.fault(4, "struct A{a:int;};struct B{a:int;};" + House.main("var x:@'H A=#new'H B{1};"));
        House.fault(5, "fun g'a'b(x:@'a int):@'b int{return #x;}fun main(){}");
        House.sound("fun g'a'b(x:@'a int):@'b int where 'a>'b{return x;}fun main(){}");
        House.fault(5, "fun g'a'b(x:@'a int):@'b int where 'b>'a{return #x;}fun main(){}");
        House.sound("fun g'a'b'c(x:@'a int):@'b int where 'a>'c,'c>'b{return x;}fun main(){}");
        House.sound("fun g'a'b'c(x:@'a int):@'c int where 'b>'c,'a>'b{return x;}fun main(){}");
        House.sound("fun g'a'b'c(x:@'c int):@'a int where 'c>'b,'b>'a{return x;}fun main(){}");
        House.fault(5, "fun g'a'b'c(x:@'c int):@'a int where 'a>'b,'b>'c{return #x;}fun main(){}");
    }

    private static void givenValues() {
        bad(6, "var x:int;print #x;");
        bad(6, "var x:int;print (#x);");
        good("var x:int;x=1;print x;");
        bad(6, "var x:int;x=#x;");
        bad(6, "var x:int;if read{x=1;}print #x;");
        good("var x:int;if read{x=1;}else{x=2;}print x;");
        good("var x:int;if read{x=1;}else{return;}print x;");
        good("var x:int;if read{throw 1;}else{x=2;}print x;");
        bad(6, "var x:int;while read{x=1;}print #x;");
        bad(6, "var x:int;while #x{x=1;}");
        good("var x:int;while 1{x=1;print x;}");
        bad(6, "while 1{var x:int;print #x;x=1;}");
        bad(6, "var x:int;try{x=1;}catch{}print #x;");
        bad(6, "var x:int;try{x=1;}catch{print #x;}");
        good("var x:int;try{x=1;}catch{x=2;}print x;");
        good("var x:int;try{x=1;}catch{return;}print x;");
        good("var x:int;region 'a{x=1;}print x;");
        bad(6, "var l:*'H L'H;#l.v=1;");
        bad(6, "if 1{var x:int=1;}var y:int;print #y;");
    }

    private static void count(int nulls, String steps) {
        PointerHouse x = House.sound(LIST + House.main(steps));
        House.due("program(3) of " + steps, nulls, x.program(3));
    }

    private static void knownVars() {
        count(1, "var p:*'H int=null;print p^;");
        count(0, "var p:*'H int=cell'H(1);print p^;");
        count(1, "var p:*'H int=cell'H(1);p=null;print p^;");
        count(0, "var p:*'H int=null;p=cell'H(1);print p^;var q:*'H int=p;print q^;");
        count(0, "var p:*'H int=null;if p{print p^;}");
        count(0, "var p:*'H int=null;if ((p)){print p^;}");
        count(1, "var p:*'H int=null;if p{}print p^;");
        count(1, "var p:*'H int=null;if p{}else{print p^;}");
        count(1, "var p:*'H int=null;if p==null{print p^;}");
        count(0, "var p:*'H int=null;if p==null{}else{print p^;}");
        count(0, "var p:*'H int=null;if (p)==(null){}else{print p^;}");
        count(0, "var p:*'H int=null;if ((p==null)){return;}print p^;");
        count(1, "var p:*'H int=null;if null==p{return;}print p^;");
        count(1, "var p:*'H int=null;var q:*'H int=null;if p==q{return;}print p^;");
        count(1, "var p:*'H int=null;if p==null{}print p^;");
        count(1, "var l:*'H L'H=null;if l.n==null{return;}print 1;");
        count(2, "var p:*'H int=cell'H(1);var q:*'H int=p;while 1{if 1{p=null;}if 1{}else{q=null;}print p^;print q^;}");
        count(1, "var p:*'H int=null;if p==null==1{return;}print p^;");
        count(0, "var p:*'H int=null;if p==null{p=cell'H(1);}print p^;");
        count(0, "var p:*'H int=null;while p{print p^;p=null;}");
        count(1, "var p:*'H int=null;while p{p=null;print p^;}");
        count(1, "var p:*'H int=null;while p{}print p^;");
        count(0, "var p:*'H int=null;while p==null{p=cell'H(1);}print p^;");
        count(1, "var p:*'H int=cell'H(1);while read{print p^;p=null;}");
        count(2, "var p:*'H int=cell'H(1);while p^{if 0{(p)=null;}}print p^;");
        count(0, "var p:*'H int=cell'H(1);while p^{print p^;}");
        count(0, "var p:*'H int=cell'H(1);while p^{var q:*'H int=null;q=p;print p^+q^;}");
        count(1, "var p:*'H int=cell'H(1);try{if 1{p=null;}}catch{print p^;}");
        count(0, "var p:*'H int=cell'H(1);try{print p^;}catch{print p^;}");
        count(0, "var p:*'H int=cell'H(1);try{p=cell'H(1);throw 1;}catch{return;}print p^;");
        count(0, "var p:*'H int=null;if p{}else{return;}print p^;");
        count(0, "var p:*'H int=null;if read{p=cell'H(1);}else{p=cell'H(2);}print p^;");
        count(1, "var p:*'H int=null;if read{p=cell'H(1);}print p^;");
        count(1, "var l:*'H L'H=new'H L'H{1,null};if l.n{print l.n.v;}");
        count(1, "var p:*'H int=null;print nn(p)^;");
        bad(4, "var p:*'H int=null;var q:@'H int=#p;");
        good("var p:*'H int=null;if p{var q:@'H int=p;}");
        // a cell of what is KNOWN has @ in it
        bad(4, "var p:*'H int=cell'H(1);var q:@'H *'H int=#cell'H(p);");
        bad(4, "var p:*'H int=null;var q:@'H @'H int=#cell'H(p);");
        House.due("parameters are not KNOWN", 1,
                House.sound("fun f(p:*'H int){print p^;}fun main(){}").program(3));
    }

    private static void unreached() {
        good("return;var x:int;print x;");
        count(0, "throw 1;var p:*'H int;print p^;p=null;print p^;");
        bad(3, "return;print #x;");
        bad(4, "return;print #null;");
        good("if 1{return;}else{throw 1;}var x:int;print x;");
        bad(6, "var x:int;if 1{return;}print #x;");
        House.fault(8, "fun f():int{#}fun main(){}");
        House.fault(8, "fun f():int{if 1{return 1;}#}fun main(){}");
        House.fault(8, "fun f():int{while 1{return 1;}#}fun main(){}");
        House.fault(8, "fun f():int{try{return 1;}catch{}#}fun main(){}");
        House.sound("fun f():int{try{return 1;}catch{return 2;}}fun main(){}");
        House.sound("fun f():int{if 1{return 1;}else{throw 1;}}fun main(){}");
        House.sound("fun f():int{region 'a{return 1;}}fun main(){}");
        House.sound("fun f():int{return 1;if 1{}while 1{}try{}catch{}}fun main(){}");
        // which are LIVE goes on where it is not REACHED
        bad(8, "region 'a{return;close 'a;#close 'a;}");
        bad(8, "region 'a{if 1{close 'a;return;}else{return;}#close 'a;}");
        good("region 'a{if 1{return;}else{close 'a;return;}close 'a;}");
        bad(5, "region 'a{close 'a;return;cell#'a(1);}");
    }

    private static void regions() {
        bad(2, "region #'H{}");
        bad(2, "region 'a{region #'a{}}");
        bad(2, "region 'a{close 'a;region #'a{}}");
        good("region 'a{}region 'a{}");
        House.fault(2, "fun f'a(){region #'a{}}fun main(){}");
        bad(3, "region 'a{}cell#'a(1);");
        bad(3, "region 'a{}var x:@#'a int;");
        good("region 'a{var x:@'a int;close 'a;var y:@'a int;}");
        bad(5, "region 'a{close 'a;cell#'a(1);}");
        bad(5, "region 'a{close 'a;row#'a(1,1);}");
        bad(5, "region 'a{close 'a;new#'a Z{};}");
        bad(5, "region 'a{var p:@'a L'a=new'a L'a{1,null};close 'a;#p.v;}");
        bad(5, "region 'a{var p:@'a L'a=new'a L'a{1,null};close 'a;&#p.v;}");
        bad(5, "region 'a{var p:@'a L'a=new'a L'a{1,null};close 'a;#p.v=1;}");
        bad(5, "region 'a{var p:@'a U'a=new'a U'a.i(1);close 'a;#p is z;}");
        bad(5, "region 'a{var p:?'a int=row'a(1,1);close 'a;#p[null];}");
        bad(5, "region 'a{var p:@'a int=cell'a(1);close 'a;(#p)^=2;}");
        good("region 'a{var p:?'a int=row'a(1,1);close 'a;print size(p+1);nn(cell'H(p));}");
        House.fault(5, "fun f'a(x:@'a int):int dead 'a{return #x^;}fun main(){}");
        House.fault(5, "fun f'a() dead 'a{cell#'a(1);}fun main(){}");
        House.fault(5, "fun g'a(){}fun f'a() dead 'a{g#'a();}fun main(){}");
        House.sound("fun g'a() dead 'a{}fun f'a() dead 'a{g'a();}fun main(){}");
    }

    private static void closing() {
        bad(3, "close #'a;");
        bad(8, "#close 'H;");
        House.fault(8, "fun f'a(){#close 'a;}fun main(){}");
        good("region 'a{close 'a;}");
        bad(8, "region 'a{close 'a;#close 'a;}");
        bad(8, "region 'a{region 'b{#close 'a;}}");
        good("region 'a{region 'b{close 'b;close 'a;}}");
        good("region 'a{region 'b{}close 'a;}");
        bad(8, "region 'a{try{#close 'a;}catch{}}");
        bad(8, "region 'a{try{if 1{#close 'a;}}catch{}}");
        good("try{region 'a{close 'a;}}catch{}");
        bad(8, "region 'a{#try{}catch{close 'a;}}");
        good("region 'a{try{throw 1;}catch{close 'a;}}");
        good("region 'a{try{return;}catch{close 'a;}}");
        good("region 'a{try{}catch{close 'a;return;}close 'a;}");
        bad(8, "region 'a{#if 1{close 'a;}}");
        bad(8, "region 'a{#if 1{close 'a;}else{}}");
        bad(8, "region 'a{#if 1{}else{close 'a;}}");
        good("region 'a{if 1{close 'a;}else{close 'a;}}");
        good("region 'a{if 1{close 'a;return;}close 'a;}");
        bad(8, "region 'a{#while 1{close 'a;}}");
        good("region 'a{while 1{close 'a;return;}close 'a;}");
        good("while 1{region 'a{close 'a;}}");
        bad(8, "region 'a{#if 1{close 'a;}close 'a;}");
        bad(5, "region 'a{if 1{close 'a;}else{return;}cell#'a(1);}");
    }

    private static void outliving() {
        good("region 'a{region 'b{var x:@'b int=cell'a(1);}}");
        bad(5, "region 'a{region 'b{var x:@'a int=#cell'b(1);}}");
        good("region 'a{var x:@'a int=cell'a(1);close 'a;var y:@'a int=x;}");
        bad(5, "region 'a{var x:@'a int=cell'a(1);close 'a;region 'b{var y:@'b int=#x;}}");
        House.sound("fun f'p(x:@'p int){region 'b{var y:@'b int=x;}}fun main(){}");
        House.fault(5, "fun f'p(x:@'p int) dead 'p{region 'b{var y:@'b int=#x;}}fun main(){}");
        House.fault(5, "fun f'p(x:@'p int):@'p int{region 'b{return #cell'b(1);}}fun main(){}");
        House.fault(5, "fun f'p(x:@'p int){region 'b{x=#cell'b(1);}}fun main(){}");
        // what where says holds for REGIONS that are not LIVE, too
        House.sound("fun f'p'q(x:@'p int):@'q int dead 'p'q where 'p>'q{return x;}fun main(){}");
        House.sound("fun f'p'q(x:@'H int):@'q int{return x;}fun main(){}");
        House.fault(5, "fun f'p(x:@'p int):@'H int where 'p>'p{return #x;}fun main(){}");
    }

    private static void steps() {
        bad(4, "print #null;");
        bad(4, "print #cell'H(1);");
        bad(4, "print #main();");
        bad(4, "throw #null;");
        bad(8, "#return 1;");
        House.fault(8, "fun f():int{#return;}fun main(){}");
        House.fault(4, "fun f():int{return #null;}fun main(){}");
        House.fault(8, "fun f(){#return x;}fun main(){}");
        bad(4, "if #null{}");
        bad(4, "if #row'H(1,1){}");
        bad(4, "if #main(){}");
        bad(4, "while #null{}");
        good("if 1{}if cell'H(1){}var p:*'H int=null;while p{}");
        bad(4, "#1=2;");
        bad(3, "1=#x;");
        bad(4, "#main()=1;");
        bad(4, "#1+2=3;");
        bad(4, "#new'H U'H.i(1) is i=3;");
        bad(4, "(#null)=3;");
        good("var x:int;(x)=1;((x))=2;print x;");
        bad(4, "var x:int;x=#null;");
        bad(4, "cell'H(1)^=#null;");
        bad(4, "new'H L'H{1,null}.n=#1;");
        bad(4, "row'H(1,1)[0]=#null;");
        bad(3, "x=#y;");
        bad(4, "#null.v=1;");
        good("main();null;1;cell'H(1);row'H(1,1);");
    }

    private static void order() {
        // the order in which things are done
        bad(3, "#zz(x);");
        bad(3, "#y.v=1+2;");
        bad(3, "null[#x];");
        bad(4, "#null[1];");
        bad(3, "null+#x;");
        bad(4, "var y:int=#null;print x;");
        bad(3, "if #x{print y;}");
        bad(3, "region 'a{if read{print #x;close 'a;}}");
        bad(8, "region 'a{#if read{close 'a;}print x;}");
        House.fault(4, "fun f(){print #null;}fun main(){print x;}");
        House.fault(3, "fun main(){print #x;}fun f(){print null;}");
    }
}
