/** Promises 4 and 5: the FAULTS of the heads. */
public final class HeadsTest {
    private static final String MAIN = "fun main(){}";

    public static void main(String[] args) {
        there();
        types();
        deadAndWhere();
        mainFun();
        order();
        House.finish();
    }

    private static void there() {
        House.fault(2, "struct A{a:int;};struct #A{a:int;};" + MAIN);
        House.fault(2, "struct A{a:int;};union #A{a:int;};" + MAIN);
        House.fault(2, "fun f(){}fun #f(){}" + MAIN);
        House.fault(2, MAIN + "fun #main(){}");
        House.fault(2, "struct A'a#'a{a:int;};" + MAIN);
        House.fault(2, "fun f'a'b#'a(){}" + MAIN);
        House.fault(2, "struct A#'H{a:int;};" + MAIN);
        House.fault(2, "fun f'a#'H(){}" + MAIN);
        House.fault(2, "struct A{a:int;b:int;#a:int;};" + MAIN);
        House.fault(2, "fun f(a:int,#a:int){}" + MAIN);
        House.sound("struct A{a:int;};struct B{a:int;};fun a(a:int){}fun f'a(a:int){}" + MAIN);
    }

    private static void types() {
        House.fault(3, "struct A'r{a:@#'s int;};" + MAIN);
        House.fault(3, "fun f'r(x:*#'s int){}" + MAIN);
        House.fault(3, "fun f'r():?#'s int{return f'r();}" + MAIN);
        House.fault(3, "struct A{a:@'H #B;};" + MAIN);
        House.fault(7, "struct A'r{a:@'r #A;};" + MAIN);
        House.fault(7, "struct A{a:@'H #A'H;};" + MAIN);
        House.fault(7, "struct A'r{a:@'r #A'r'r;};" + MAIN);
        House.fault(3, "struct A'r{a:@'r A#'s;};" + MAIN);
        // from the left: the REGION, the TITLE, its number, its REGIONS
        House.fault(3, "struct A'r{a:@#'s B'x;};" + MAIN);
        House.fault(7, "struct A'r{a:@'r #A'x'y;};" + MAIN);
        House.fault(3, "struct A'r{a:@'H *'r ?#'s *'t int;};" + MAIN);
        House.sound("struct A'r{a:@'H *'r ?'r *'r A'H;};" + MAIN);
        // a TITLE is there whether it stands ahead or behind
        House.sound("fun f(x:*'H A){}struct A{b:*'H B;};" + MAIN + "union B{a:@'H A;};");
        // the first of two counts
        House.fault(7, "struct B{a:*'H #A;};struct A'r{a:int;};struct A{a:int;};" + MAIN);
    }

    private static void deadAndWhere() {
        House.sound("fun f'a'b(x:@'a int) dead 'b'a where 'a>'b,'b>'a{}" + MAIN);
        House.fault(3, "fun f'a() dead #'b{}" + MAIN);
        House.fault(3, "fun f'a() dead 'a#'H{}" + MAIN);
        House.fault(2, "fun f'a'b() dead 'a'b#'a{}" + MAIN);
        House.fault(3, "fun f'a() dead #'b'b{}" + MAIN);
        House.fault(3, "fun f'a() where #'b>'a{}" + MAIN);
        House.fault(3, "fun f'a() where 'a>#'b{}" + MAIN);
        House.fault(3, "fun f'a() where #'H>'a{}" + MAIN);
        House.fault(3, "fun f'a() where 'a>'a,'a>#'H{}" + MAIN);
    }

    private static void mainFun() {
        House.fault(8, "fun f(){}");
        House.fault(8, "struct A{a:int;};  ");
        House.fault(8, "fun main'a(){}");
        House.fault(8, "fun main(x:int){}");
        House.fault(8, "fun main():int{return 1;}");
        House.sound("fun f(){}fun main(){}struct A{a:int;};");
    }

    private static void order() {
        // heads in the order of the text, then main, then the BLOCKS
        House.fault(2, "fun f(a:int,#a:int):@'z int{}" + MAIN);
        House.fault(3, "fun f(a:@#'z int,a:int){}" + MAIN);
        House.fault(3, "fun f():@#'z int dead 'y{}" + MAIN);
        House.fault(3, "fun f'a() dead #'y where 'z>'a{}" + MAIN);
        House.fault(3, "fun main(){print x;}struct A{a:@#'z int;};");
        House.fault(8, "fun f(){print x;}");
        House.fault(2, "fun f(){print x;}" + MAIN + "fun #f(){}");
        House.fault(2, "struct A'a#'a{b:int;b:int;};" + MAIN);
        House.fault(2, "struct A{a:int;};struct #A'a'a{b:int;};" + MAIN);
    }
}
