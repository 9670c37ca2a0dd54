/** What is SET, KNOWN, LIVE, REACHED and can be seen, sentence by sentence (promises 4 to 6). */
public final class FlowBoundsTest {
    private static final String MAIN = "fun main(){}";
    private static final String HEADS = "struct L'r{v:int;n:*'r L'r;};union U'r{i:int;p:*'r int;f:?'r int;};";

    public static void main(String[] args) {
        varsSeen();
        regionsSeen();
        atFirst();
        notReached();
        waysMeet();
        sameLive();
        oneNotReached();
        neitherReached();
        outlivesItself();
        outlivesByWhere();
        outlivesByBlocks();
        knownByVar();
        knownByIf();
        knownByNull();
        knownByItself();
        whileForgets();
        whileLive();
        behindWhile();
        regionStep();
        closeRefused();
        closeInTry();
        tryBegins();
        returns();
        endOfFun();
        House.finish();
    }

    private static void bad(int kind, String steps) {
        House.fault(kind, HEADS + House.main(steps));
    }

    private static void good(String steps) {
        House.sound(HEADS + House.main(steps));
    }

    /** How many places of the STEPS may meet a NULL: there what is KNOWN shows. */
    private static void nulls(int count, String steps) {
        PointerHouse x = House.sound(HEADS + House.main(steps));
        House.due("program(3) of " + steps, count, x.program(3));
    }

    private static void varsSeen() {
        House.sentence("VARS that can be seen (parameters; a var behind its STEP, to the end of its BLOCK)");
        House.sound("fun f(a:int){a;if a{a;}}" + MAIN);
        bad(3, "#a;var a:int=1;");
        bad(3, "var a:int=#a;");
        bad(3, "#a=1;var a:int;");
        good("var a:int=1;a;if 1{a;}while 0{a;}region 'x{a;}try{a;}catch{a;}");
        for (String block : new String[] {"if 1{~}", "if 1{}else{~}", "while 1{~}", "region 'x{~}", "try{~}catch{}", "try{}catch{~}"}) {
            good(block.replace("~", "var a:int=1;a;"));
            bad(3, block.replace("~", "var a:int=1;") + "#a;");
            good(block.replace("~", "var a:int=1;") + "var a:*'H int=null;a;");
            bad(2, "var a:int;" + block.replace("~", "var #a:int;"));
        }
        bad(3, "if 1{var a:int=1;}else{#a;}");
        bad(3, "try{var a:int=1;}catch{#a;}");
        bad(2, "var a:int;var #a:int;");
        House.fault(2, "fun f(a:int){var #a:int;}" + MAIN);
        bad(4, "var a:int;var a:int=#null;");
        bad(3, "var a:int;var a:@#'z int=null;");
    }

    private static void regionsSeen() {
        House.sentence("REGIONS can be seen (RS; those of the region STEPS around)");
        House.sound("fun f'a(){cell'a(1);region 'b{cell'b(cell'a(1));}}" + MAIN);
        bad(3, "cell#'a(1);region 'a{}");
        bad(3, "region 'a{}cell#'a(1);");
        bad(3, "region 'a{region 'b{}cell#'b(1);}");
        bad(3, "region 'a{}region 'b{cell#'a(1);}");
        good("region 'a{close 'a;var x:*'a int=null;}");
        good("cell'H(1);");
    }

    private static void atFirst() {
        House.sentence("At first the parameters are SET, none is KNOWN, 'H and the REGIONS of RS but the dead ones are LIVE, it is REACHED.");
        House.sound("fun f(a:int,b:*'H int,c:?'H int){a;b;c;}" + MAIN);
        House.due("NULLS of a parameter", 1, House.sound("fun f(b:*'H int){b^;}" + MAIN).program(3));
        House.due("NULLS of a parameter with @", 0, House.sound("fun f(b:@'H int){b^;}" + MAIN).program(3));
        House.sound("fun f'a'b'c() dead 'b{cell'H(1);cell'a(1);cell'c(1);}" + MAIN);
        House.fault(5, "fun f'a'b'c() dead 'b{cell#'b(1);}" + MAIN);
        House.fault(5, "fun f'a'b'c() dead 'a{cell#'a(1);}" + MAIN);
        House.fault(5, "fun f'a'b'c() dead 'c'b{cell#'c(1);}" + MAIN);
        House.fault(8, "fun f():int{#}" + MAIN);
    }

    private static void notReached() {
        House.sentence("Where it is not REACHED (behind return and throw, in their BLOCK), all VARS are SET and KNOWN.");
        for (String leave : new String[] {"return;", "throw 1;"}) {
            bad(6, "var a:int;#a;" + leave);
            good("var a:int;" + leave + "a;");
            good(leave + "var a:int;a;");
            bad(6, "var a:int;if 1{" + leave + "a;}#a;");
            nulls(1, "var p:*'H int=null;p^;" + leave + "p^;");
            nulls(0, leave + "var p:*'H int=null;p^;p=null;p^;");
            nulls(0, "var p:*'H int=null;" + leave + "while 1{p^;p=null;}p^;");
            nulls(0, "var p:*'H int=null;" + leave + "try{p=null;}catch{p^;}p^;");
            nulls(1, "var p:*'H int=null;if 1{" + leave + "p^;}p^;");
            nulls(0, "var p:*'H int=null;" + leave + "if p==null{p^;}p^;");
            good("var p:*'H int=null;" + leave + "var q:@'H int=p;");
            // all else is checked there as elsewhere
            bad(3, leave + "#a;");
            bad(4, leave + "print #null;");
            bad(5, "region 'a{close 'a;" + leave + "cell#'a(1);}");
            bad(8, leave + "print #caught;");
        }
    }

    private static void waysMeet() {
        House.sentence("Where two ways meet, VARS are SET, KNOWN if they are on both");
        bad(6, "var a:int;if 1{a=1;}#a;");
        bad(6, "var a:int;if 1{a=1;}else{}#a;");
        bad(6, "var a:int;if 1{}else{a=1;}#a;");
        good("var a:int;if 1{a=1;}else{a=1;}a;");
        bad(6, "var a:int;try{a=1;}catch{}#a;");
        bad(6, "var a:int;try{}catch{a=1;}#a;");
        good("var a:int;try{a=1;}catch{a=1;}a;");
        good("var a:int=1;if 1{}else{}try{}catch{}a;");
        String p = "var p:*'H int=null;";
        nulls(1, p + "if 1{p=cell'H(1);}p^;");
        nulls(1, p + "if 1{}else{p=cell'H(1);}p^;");
        nulls(0, p + "if 1{p=cell'H(1);}else{p=cell'H(1);}p^;");
        nulls(1, p + "try{p=cell'H(1);}catch{}p^;");
        nulls(1, p + "try{}catch{p=cell'H(1);}p^;");
        nulls(0, p + "try{p=cell'H(1);}catch{p=cell'H(1);}p^;");
        nulls(0, "var p:*'H int=cell'H(1);if 1{}try{}catch{}p^;");
        nulls(1, "var p:*'H int=cell'H(1);if 1{p=null;}p^;");
        nulls(1, "var p:*'H int=cell'H(1);if 1{}else{p=null;}p^;");
        // each VAR by itself
        bad(6, "var a:int;var b:int;if 1{a=1;b=1;}else{a=1;}a;#b;");
        nulls(1, p + "var q:*'H int=null;if 1{p=cell'H(1);q=p;}else{q=cell'H(1);}p^;q^;");
    }

    private static void sameLive() {
        House.sentence("if both are, the same REGIONS must be LIVE (8 at the STEP, if or try)");
        bad(8, "region 'a{#if 1{close 'a;}}");
        bad(8, "region 'a{#if 1{close 'a;}else{}}");
        bad(8, "region 'a{#if 1{}else{close 'a;}}");
        good("region 'a{if 1{close 'a;}else{close 'a;}}");
        good("region 'a{if 1{}else{}close 'a;}");
        bad(8, "region 'a{region 'b{#if 1{close 'b;}else{close 'b;close 'a;}}}");
        good("region 'a{region 'b{if 1{close 'b;close 'a;}else{close 'b;close 'a;}}}");
        bad(8, "region 'a{#try{}catch{close 'a;}}");
        bad(8, "region 'a{if 1{#if 1{close 'a;}}}");
        good("region 'a{if 1{if 1{close 'a;}else{close 'a;}}else{close 'a;}}");
        // a region STEP in a BLOCK is over at its end
        good("if 1{region 'a{}}if 1{region 'a{close 'a;}}try{region 'a{}}catch{}");
    }

    private static void oneNotReached() {
        House.sentence("it is REACHED if one is; .. if one is not, all is as on the other one");
        for (String leave : new String[] {"return;", "throw 1;"}) {
            good("var a:int;if 1{a=1;}else{" + leave + "}a;");
            good("var a:int;if 1{" + leave + "}else{a=1;}a;");
            bad(6, "var a:int;if 1{" + leave + "}else{}#a;");
            bad(6, "var a:int;if 1{" + leave + "}#a;");
            good("var a:int;try{a=1;}catch{" + leave + "}a;");
            good("var a:int;try{" + leave + "}catch{a=1;}a;");
            bad(6, "var a:int;try{" + leave + "}catch{}#a;");
            nulls(0, "var p:*'H int=null;if 1{" + leave + "}else{p=cell'H(1);}p^;");
            nulls(1, "var p:*'H int=cell'H(1);if 1{" + leave + "}else{p=null;}p^;");
            nulls(1, "var p:*'H int=cell'H(1);if 1{p=null;}else{" + leave + "}p^;");
            good("region 'a{if 1{close 'a;" + leave + "}close 'a;}");
            good("region 'a{if 1{" + leave + "}else{close 'a;}}");
            bad(5, "region 'a{if 1{" + leave + "}else{close 'a;}cell#'a(1);}");
            good("region 'a{if 1{close 'a;" + leave + "}else{}cell'a(1);}");
            good("region 'a{try{}catch{close 'a;" + leave + "}cell'a(1);}");
            bad(5, "region 'a{try{" + leave + "}catch{close 'a;}cell#'a(1);}");
        }
        House.fault(8, "fun f():int{if 1{return 1;}else{}#}" + MAIN);
        House.fault(8, "fun f():int{if 1{}else{return 1;}#}" + MAIN);
        House.fault(8, "fun f():int{try{return 1;}catch{}#}" + MAIN);
        House.fault(8, "fun f():int{try{}catch{return 1;}#}" + MAIN);
    }

    private static void neitherReached() {
        House.sentence("if neither is, as on the first. (Which are LIVE goes on as it was where it is not REACHED.)");
        House.sound("fun f():int{if 1{return 1;}else{throw 1;}}" + MAIN);
        House.sound("fun f():int{try{throw 1;}catch{return 1;}}" + MAIN);
        good("var a:int;if 1{return;}else{return;}a;");
        good("region 'a{if 1{return;}else{close 'a;return;}close 'a;}");
        bad(8, "region 'a{if 1{close 'a;return;}else{return;}#close 'a;}");
        bad(5, "region 'a{if 1{close 'a;return;}else{return;}cell#'a(1);}");
        good("region 'a{try{return;}catch{close 'a;return;}cell'a(1);}");
        good("region 'a{return;if 1{close 'a;}else{}}");
        bad(5, "region 'a{return;if 1{close 'a;}else{}cell#'a(1);}");
        good("region 'a{return;if 1{}else{close 'a;}cell'a(1);}");
        good("region 'a{return;close 'a;}");
        bad(8, "region 'a{return;close 'a;#close 'a;}");
        bad(8, "region 'a{close 'a;return;#close 'a;}");
        // no 8 of if, try or while comes where it is not REACHED
        good("region 'a{return;while 1{close 'a;}cell'a(1);}");
    }

    private static void outlivesItself() {
        House.sentence("R OUTLIVES S: R is S, or 'H");
        House.sound("fun f'a(x:@'a int):@'a int dead 'a{return x;}" + MAIN);
        House.sound("fun f'a(x:@'H int):@'a int dead 'a{return x;}" + MAIN);
        House.fault(5, "fun f'a(x:@'a int):@'H int{return #x;}" + MAIN);
        good("region 'a{var x:@'a int=cell'a(1);close 'a;var y:@'a int=x;}");
        good("region 'a{close 'a;var y:@'a int=cell'H(1);}");
        bad(5, "region 'a{var y:@'H int=#cell'a(1);}");
    }

    private static void outlivesByWhere() {
        House.sentence("or where says so (perhaps in several: R > T, T > S)");
        String f = "fun f'a'b'c(x:@'a int):@'c int";
        House.fault(5, f + "{return #x;}" + MAIN);
        House.sound(f + " where 'a>'c{return x;}" + MAIN);
        House.fault(5, f + " where 'c>'a{return #x;}" + MAIN);
        House.sound(f + " where 'a>'b,'b>'c{return x;}" + MAIN);
        House.sound(f + " where 'b>'c,'a>'b{return x;}" + MAIN);
        House.fault(5, f + " where 'a>'b,'c>'b{return #x;}" + MAIN);
        House.fault(5, f + " where 'b>'a,'b>'c{return #x;}" + MAIN);
        House.fault(5, f + " where 'a>'b{return #x;}" + MAIN);
        House.fault(5, f + " where 'b>'c,'a>'a,'c>'c{return #x;}" + MAIN);
        House.sound(f + " where 'a>'b,'b>'a,'b>'c{return x;}" + MAIN);
        // LIVE or dead, it is the same
        House.sound(f + " dead 'a'c where 'a>'b,'b>'c{return x;}" + MAIN);
        // another fun's where says nothing here
        House.fault(5, "fun g'a'b'c() where 'a>'c{}" + f + "{return #x;}" + MAIN);
    }

    private static void outlivesByBlocks() {
        House.sentence("or R is LIVE and S of a region STEP, and R is of RS, or of a region STEP in whose BLOCK that of S stands.");
        House.sound("fun f'a(x:@'a int){region 's{var y:@'s int=x;}}" + MAIN);
        House.fault(5, "fun f'a(x:@'a int) dead 'a{region 's{var y:@'s int=#x;}}" + MAIN);
        House.fault(5, "fun f'a(x:@'a int){region 's{x=#cell's(1);}}" + MAIN);
        good("region 'a{region 'b{region 'c{var y:@'c int=cell'a(1);y=cell'b(1);var z:@'b int=cell'a(1);}}}");
        bad(5, "region 'a{region 'b{var y:@'a int=#cell'b(1);}}");
        bad(5, "region 'a{var x:@'a int=cell'a(1);region 'b{close 'b;var y:@'b int=x;}close 'a;region 'c{var y:@'c int=#x;}}");
        // S need not be LIVE
        good("region 'a{var x:@'a int=cell'a(1);region 'b{close 'b;var y:@'b int=x;}}");
        bad(5, "region 'a{region 'b{var x:@'a int=cell'a(1);close 'b;close 'a;var y:@'b int=#x;}}");
    }

    private static void knownByVar() {
        House.sentence("var: SET if there is an EXPR, KNOWN if it gives @ for *. PLACE = EXPR: SET, KNOWN just if it gives @ for *.");
        bad(6, "var a:int;#a;");
        good("var a:int=0;a;");
        bad(6, "var p:*'H int;#p;");
        good("var p:*'H int=null;p;");
        nulls(1, "var p:*'H int=null;p^;");
        nulls(0, "var p:*'H int=cell'H(1);p^;");
        nulls(1, "var q:*'H int=null;var p:*'H int=q;p^;");
        nulls(0, "var q:*'H int=cell'H(1);var p:*'H int=q;p^;");
        nulls(0, "var q:*'H int=null;var p:*'H int=nn(cell'H(1));p^;");
        good("var a:int;a=1;a;");
        bad(6, "var a:int;a=#a;");
        nulls(0, "var p:*'H int;p=cell'H(1);p^;");
        nulls(1, "var p:*'H int;p=null;p^;");
        nulls(1, "var p:*'H int=cell'H(1);p=null;p^;");
        nulls(1, "var q:*'H int=null;var p:*'H int=cell'H(1);p=q;p^;");
        nulls(0, "var p:*'H int=cell'H(1);p=p;p^;");
        // a VAR in the place of one that can't be seen any more is neither SET nor KNOWN
        nulls(1, "if 1{var p:*'H int=cell'H(1);}var q:*'H int=null;q^;");
        bad(6, "if 1{var a:int=1;}var b:int;#b;");
        bad(6, "while 1{var a:int;if read{a=1;}else{#a;}}");
    }

    private static void knownByIf() {
        House.sentence("If E is a NAME with *, it is KNOWN where E is so, in the first BLOCK");
        String p = "var p:*'H int=null;";
        nulls(0, p + "if p{p^;}");
        nulls(1, p + "if p{}else{p^;}");
        nulls(1, p + "if p{}p^;");
        nulls(1, p + "if p{p^;p=null;p^;}");
        nulls(1, p + "if 1{p^;}");
        nulls(0, p + "if p{}else{return;}p^;");
        nulls(1, p + "if cell'H(p){p^;}");
        nulls(2, p + "if nn(p){p^;}");
        nulls(2, "var l:@'H L'H=new'H L'H{1,null};if l.n{l.n.v;}l.n.v;");
        bad(4, p + "if #p+1{}");
        nulls(1, p + "if p==p{p^;}");
        good("var p:@'H int=cell'H(1);if p{p^;}");
        good("var a:int=1;if a{a;}");
    }

    private static void knownByNull() {
        House.sentence("if E is NAME == null (not null == NAME), where it is not: in the second BLOCK, or (without else) on the way around the first.");
        String p = "var p:*'H int=null;";
        nulls(1, p + "if p==null{p^;}");
        nulls(0, p + "if p==null{}else{p^;}");
        nulls(1, p + "if null==p{}else{p^;}");
        nulls(1, p + "if p==null{}else{}p^;");
        nulls(1, p + "if p==null{}p^;");
        nulls(0, p + "if p==null{return;}p^;");
        nulls(1, p + "if null==p{return;}p^;");
        nulls(0, p + "if p==null{p=cell'H(1);}p^;");
        nulls(1, p + "if p==null{return;}else{p=null;}p^;");
        nulls(1, p + "if p==null==0{return;}p^;");
        nulls(1, p + "if 0==(p==null){}else{p^;}");
        nulls(1, p + "if nn(cell'H(1))==null{}else{p^;}");
        nulls(1, "var l:@'H L'H=new'H L'H{1,null};if l.n==null{return;}l.n.v;");
        nulls(2, "var l:*'H L'H=null;if l.n==null{return;}l.v;");
    }

    private static void knownByItself() {
        House.sentence("(it is KNOWN, and no other VAR)");
        String v = "var a:*'H int=null;var b:*'H int=null;var c:*'H int=null;var d:int=1;";
        String use = "a^+b^+c^;";
        for (String e : new String[] {"1", "d", "d==1", "a==b", "null==a", "null==null", "cell'H(1)", "cell'H(1)==null", "a==null==0", "nn(cell'H(a))"}) {
            nulls(3, v + "if " + e + "{" + use + "}");
            nulls(3, v + "if " + e + "{}else{" + use + "}");
            nulls(3, v + "if " + e + "{}" + use);
            nulls(3, v + "if " + e + "{return;}" + use);
            nulls(3, v + "while " + e + "{" + use + "}");
            nulls(3, v + "while " + e + "{}" + use);
        }
        for (String name : new String[] {"a", "b", "c"}) {
            nulls(2, v + "if " + name + "{" + use + "}");
            nulls(3, v + "if " + name + "{}else{" + use + "}");
            nulls(2, v + "if " + name + "==null{}else{" + use + "}");
            nulls(3, v + "if " + name + "==null{" + use + "}");
            nulls(2, v + "if " + name + "==null{return;}" + use);
            nulls(2, v + "while " + name + "{" + use + "}");
            nulls(2, v + "while " + name + "==null{}" + use);
            nulls(2, v + name + "=cell'H(1);" + use);
        }
    }

    private static void whileForgets() {
        House.sentence("while E: ahead of it no VAR is KNOWN to which its BLOCK has a NAME = (at any depth)");
        String p = "var p:*'H int=cell'H(1);";
        nulls(0, p + "while p^{}p^;");
        nulls(1, p + "while p^{p=cell'H(1);}");
        nulls(2, p + "while p^{p=null;}p^;");
        for (String block : new String[] {"if 1{~}", "if 1{}else{~}", "while 0{~}", "region 'a{~}", "try{~}catch{}", "try{}catch{~}",
            "if 1{while 1{try{}catch{~}}}"}) {
            nulls(1, p + "while p^{" + block.replace("~", "p=cell'H(1);") + "}");
            nulls(1, p + "while p^{" + block.replace("~", "(p)=cell'H(1);") + "}");
            nulls(0, p + "while p^{" + block.replace("~", "p^=2;") + "}");
            nulls(0, p + "while p^{" + block.replace("~", "var q:*'H int=null;q=p;") + "}");
        }
        // all of them, in whatever order they are given
        String q = p + "var q:*'H int=cell'H(2);var r:*'H int=cell'H(3);";
        nulls(2, q + "while p^+q^+r^{p=null;q=null;}");
        nulls(2, q + "while p^+q^+r^{q=null;p=null;}");
        nulls(2, q + "while p^+q^+r^{p=null;if 1{q=null;}}");
        nulls(2, q + "while p^+q^+r^{if 1{q=null;}p=null;}");
        nulls(3, q + "while p^+q^+r^{if 1{q=null;}else{r=null;}1;p=null;2;}");
        nulls(3, q + "while p^+q^+r^{try{q=null;}catch{r=null;}while 1{p=null;}region 'a{}}");
        nulls(3, q + "try{if 1{q=null;}p=null;region 'a{r=null;}}catch{p^+q^+r^;}");
        // just those VARS
        nulls(1, p + "var q:*'H int=cell'H(1);while p^+q^{q=null;}p^;");
        // what is given in E's BLOCK is KNOWN there
        nulls(0, "var p:*'H int=null;while 1{p=cell'H(1);p^;}");
        nulls(1, "var p:*'H int=null;while 1{p=cell'H(1);}p^;");
    }

    private static void whileLive() {
        House.sentence("at the end of its BLOCK, if REACHED, the same must be LIVE as behind E (8 at while)");
        bad(8, "region 'a{#while 1{close 'a;}}");
        good("region 'a{while 1{close 'a;return;}close 'a;}");
        good("region 'a{while 1{close 'a;throw 1;}cell'a(1);}");
        good("region 'a{while 1{}close 'a;}");
        good("while 1{region 'a{}region 'b{close 'b;}}");
        bad(8, "region 'a{while 1{#while 1{close 'a;}}}");
        bad(8, "region 'a{region 'b{#while 1{close 'b;}close 'b;}}");
        bad(8, "region 'a{#while 1{if 1{close 'a;}else{return;}}}");
        good("region 'a{while 1{if 1{close 'a;return;}}}");
    }

    private static void behindWhile() {
        House.sentence("behind it is as behind E (with KNOWN by NAME == null)");
        bad(6, "var a:int;while 1{a=1;}#a;");
        good("var a:int=1;while 1{}a;");
        nulls(0, "var p:*'H int=null;while p==null{p=cell'H(1);}p^;");
        nulls(0, "var p:*'H int=null;while p==null{}p^;");
        nulls(1, "var p:*'H int=null;while null==p{}p^;");
        nulls(1, "var p:*'H int=null;while p{p^;}p^;");
        nulls(0, "var p:*'H int=null;while p{p^;}");
        House.fault(8, "fun f():int{while 1{return 1;}#}" + MAIN);
        House.sound("fun f():int{while 1{return 1;}return 2;}" + MAIN);
        House.sound("fun f():int{return 1;while 1{}}" + MAIN);
        good("region 'a{while 1{close 'a;return;}cell'a(1);}");
    }

    private static void regionStep() {
        House.sentence("region R BLOCK: 2 at R if it can be seen (also 'H); in its BLOCK it is LIVE.");
        bad(2, "region #'H{}");
        bad(2, "region 'a{region #'a{}}");
        bad(2, "region 'a{close 'a;region #'a{}}");
        bad(2, "region 'a{region 'b{region #'a{}}}");
        House.fault(2, "fun f'a(){region #'a{}}" + MAIN);
        House.fault(2, "fun f'a() dead 'a{region #'a{}}" + MAIN);
        good("region 'a{}region 'a{}region 'a{region 'b{}region 'b{}}");
        good("region 'a{cell'a(1);region 'b{cell'a(1);cell'b(1);}}");
        good("region 'a{close 'a;}region 'a{cell'a(1);}");
        good("region 'a{region 'b{close 'b;}region 'b{cell'b(1);}}");
        House.sound("fun f'a(){}" + House.main("region 'a{f'a();}"));
    }

    private static void closeRefused() {
        House.sentence("close R: 3 at R; 8 at close, if R is not of a region STEP, not LIVE, or one in its BLOCK that stands around is LIVE");
        bad(3, "close #'a;");
        bad(3, "region 'a{}close #'a;");
        bad(8, "#close 'H;");
        House.fault(8, "fun f'a(){#close 'a;}" + MAIN);
        House.fault(8, "fun f'a() dead 'a{#close 'a;}" + MAIN);
        good("region 'a{close 'a;}");
        bad(8, "region 'a{close 'a;#close 'a;}");
        bad(8, "region 'a{if 1{close 'a;}else{close 'a;}#close 'a;}");
        bad(8, "region 'a{region 'b{#close 'a;}}");
        bad(8, "region 'a{region 'b{region 'c{close 'c;#close 'a;}}}");
        bad(8, "region 'a{region 'b{region 'c{#close 'b;}}}");
        good("region 'a{region 'b{close 'b;close 'a;}}");
        good("region 'a{region 'b{region 'c{close 'c;close 'b;close 'a;}}}");
        good("region 'a{region 'b{}close 'a;}");
        good("region 'a{if 1{while 1{close 'a;return;}}}");
        bad(5, "region 'a{close 'a;cell#'a(1);}");
    }

    private static void closeInTry() {
        House.sentence("or a try's first BLOCK stands around close and in its BLOCK; then it is LIVE no more");
        bad(8, "region 'a{try{#close 'a;}catch{}}");
        bad(8, "region 'a{try{#close 'a;return;}catch{}}");
        bad(8, "region 'a{try{if 1{#close 'a;return;}}catch{}}");
        bad(8, "region 'a{try{try{}catch{#close 'a;return;}}catch{}}");
        bad(8, "region 'a{try{region 'b{close 'b;#close 'a;}}catch{}}");
        good("try{region 'a{close 'a;}}catch{}");
        good("region 'a{try{region 'b{close 'b;}}catch{}close 'a;}");
        good("try{try{region 'a{close 'a;}}catch{}}catch{}");
        bad(8, "try{region 'a{try{#close 'a;}catch{}}}catch{}");
        good("region 'a{try{return;}catch{close 'a;}}");
        good("region 'a{try{}catch{}close 'a;}");
        good("try{}catch{region 'a{close 'a;}}");
        // a try behind, or over, is not around
        good("region 'a{try{try{}catch{}}catch{}close 'a;try{}catch{}}");
    }

    private static void tryBegins() {
        House.sentence("try: its second BLOCK begins as ahead of the first one, but that no VAR is KNOWN to which the first has a NAME = (at any depth).");
        bad(6, "var a:int;try{a=1;}catch{#a;}");
        good("var a:int=1;try{}catch{a;}");
        good("try{return;}catch{}");
        House.fault(8, "fun f():int{try{return 1;}catch{}#}" + MAIN);
        String p = "var p:*'H int=cell'H(1);";
        nulls(0, p + "try{}catch{p^;}");
        nulls(1, p + "try{p=cell'H(1);}catch{p^;}");
        nulls(1, p + "try{if 1{while 1{p=cell'H(1);}}}catch{p^;}");
        nulls(1, p + "try{try{}catch{p=cell'H(1);}}catch{p^;}");
        nulls(0, p + "try{p^=1;}catch{p^;}");
        nulls(0, p + "try{}catch{p=cell'H(1);p^;}");
        // the first begins as ahead of it, whatever it has a NAME = to
        nulls(0, p + "try{p^;p=cell'H(2);}catch{}");
        nulls(0, "var p:*'H int=null;if p{try{}catch{p^;}}");
        good("region 'a{try{return;}catch{cell'a(1);}}");
    }

    private static void returns() {
        House.sentence("return: 8 at return if the fun has a TYPE and there is no EXPR, or none and there is one; it FITS.");
        House.sound("fun f(){return;}" + MAIN);
        House.fault(8, "fun f(){#return 1;}" + MAIN);
        House.fault(8, "fun f(){#return f();}" + MAIN);
        House.fault(8, "fun f(){#return null;}" + MAIN);
        House.sound("fun f():int{return 1;}" + MAIN);
        House.fault(8, "fun f():int{#return;}" + MAIN);
        House.fault(8, "fun f():*'H int{#return ;}" + MAIN);
        House.fault(4, "fun f():int{return #null;}" + MAIN);
        House.sound("fun f():*'H int{return null;}" + MAIN);
        House.fault(5, "fun f'a(x:@'a int):@'H int{return #x;}" + MAIN);
        bad(8, "region 'a{try{while 1{#return 1;}}catch{}}");
    }

    private static void endOfFun() {
        House.sentence("Behind return and throw it is not REACHED. At the } of a fun with a TYPE: 8 if it is REACHED.");
        House.fault(8, "fun f():int{#}" + MAIN);
        House.fault(8, "fun f():int{1; #}" + MAIN);
        House.sound("fun f():int{throw 1;}" + MAIN);
        House.sound("fun f():int{region 'a{return 1;}}" + MAIN);
        House.sound("fun f():int{region 'a{region 'b{throw 1;}}}" + MAIN);
        House.fault(8, "fun f():int{if 1{return 1;}#}" + MAIN);
        House.fault(8, "fun f():int{while 1{return 1;}#}" + MAIN);
        House.sound("fun f(){if 1{return;}}" + MAIN);
        House.sound("fun f():int{return 1;1;if 1{}}" + MAIN);
        House.sound("fun f():int{if 1{return 1;}else{if 1{throw 1;}else{return 2;}}}" + MAIN);
    }
}
