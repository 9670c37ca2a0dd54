import java.util.Random;

/** All promises at the far ends: the longest texts, the deepest runs, and calls in any order. */
public final class LimitsTest {
    public static void main(String[] args) {
        longTexts();
        manyTypes();
        manyRegions();
        deepStack();
        manyBuilds();
        allCalls();
        anyCalls();
        House.finish();
    }

    private static String filled(String head, String step, String tail) {
        StringBuilder text = new StringBuilder(head);
        while (text.length() + step.length() + tail.length() <= 4000) {
            text.append(step);
        }
        return text.append(tail).toString();
    }

    private static void longTexts() {
        PointerHouse x = House.ran(filled("fun main(){var a:int=1;", "a;", "print a;}"), 1, 4);
        House.due("state(0) of many short STEPS", 2, x.state(0));
        House.due("printed(0)", 1, x.printed(0));
        x = House.ran(filled("fun main(){print 0", "+1", ";}"), 1, 4);
        House.due("printed(0) of a long sum", 1990, x.printed(0));
        x = House.ran(filled("struct L{n:*'H L;};fun main(){var l:@'H L=new'H L{null};l.n=l;l.n", ".n", ";}"), 1, 4);
        House.due("state(0) of a long chain", 2, x.state(0));
        x = House.ran(filled("fun main(){", "if 1{}", "}"), 1, 4);
        House.due("state(0) of many ifs", 2, x.state(0));
        x = House.ran(filled("fun main(){", "try{}catch{}", "}"), 1, 4);
        House.due("state(0) of many tries", 2, x.state(0));
        x = House.ran(filled("fun e(){}fun main(){", "e();", "}"), 1, 4);
        House.due("state(0) of many calls", 2, x.state(0));
        House.fault(1, "fun main(){" + House.times(19, "(") + filled("#", "(", "}").substring(0, 3960));
    }

    private static void manyTypes() {
        // each call tells its TYPES with other REGIONS
        StringBuilder text = new StringBuilder("fun f'a'b'c():*'a *'b *'c *'b *'a int{return null;}fun main(){");
        String[] names = {"'H", "'a", "'b", "'c", "'d", "'e", "'f", "'g", "'h"};
        for (int i = 1; i < names.length; i++) {
            text.append("region ").append(names[i]).append("{");
        }
        int calls = 0;
        for (int i = 0; i < 729 && text.length() < 3970; i++) {
            text.append("f").append(names[i % 9]).append(names[i / 9 % 9]).append(names[i / 81]).append("();");
            calls++;
        }
        PointerHouse x = House.ran(text.append("}}}}}}}}}").toString(), 1, 4);
        House.due("state(0) of many TYPES", 2, x.state(0));
        House.due("steps", 8 + 2 * calls, x.world(0));
    }

    private static void manyRegions() {
        String eight = "region 'a{region 'b{region 'c{region 'd{region 'e{region 'f{region 'g{region 'h{";
        String text = "fun f(){" + eight + "f();}}}}}}}}}fun main(){" + eight + "f();}}}}}}}}}";
        PointerHouse x = House.ran(text, 1, 4);
        House.due("state(0)", 5, x.state(0));
        House.due("regions", 321, x.world(2));
        House.due("region(320, 0)", 0, x.region(320, 0));
        House.due("region(321, 0)", -1, x.region(321, 0));
    }

    private static void deepStack() {
        // many words lie on the stack in each of forty calls, and all come back
        String head = "struct S{a:?'H int;b:?'H int;c:?'H int;d:?'H int;e:?'H int;f:?'H int;g:?'H int;h:?'H int;};";
        String open = House.times(8, "new'H S{f,f,f,f,f,f,f,");
        String close = House.times(8, "}.h");
        String f = "fun f(n:int,f:?'H int):?'H int{if n==0{return f;}f=" + open + "f(n-1,f+1)" + close + ";return f;}";
        PointerHouse x = House.ran(head + f + House.main("var r:?'H int=f(38,row'H(1,5));print (r+(0-38))[0];"), 64, 64);
        House.due("state(0): 38 * 8 objects of 24 words need more pages", 4, x.state(0));
        String g = "fun s(a:?'H int,b:?'H int,c:?'H int,d:?'H int,e:?'H int,f:?'H int):?'H int{return f;}";
        String nested = House.times(16, "s(f,f,f,f,f,") + "f(n-1,f+1)" + House.times(16, ")");
        x = House.ran(g + "fun f(n:int,f:?'H int):?'H int{if n==0{return f;}f=" + nested + ";return f;}"
                + House.main("var r:?'H int=f(37,row'H(1,5));print (r+(0-37))[0];"), 64, 64);
        House.due("state(0)", 2, x.state(0));
        House.due("printed(0)", 5, x.printed(0));
        String tries = House.times(18, "try{");
        String ends = House.times(18, "}catch{throw caught+1;}");
        x = House.ran("fun t(n:int){" + tries + "throw 0;" + ends + "}"
                + House.main("try{t(1);}catch{print caught;}"), 1, 4);
        House.due("printed(0) behind many tries", 18, x.printed(0));
        x = House.ran("fun t(n:int){" + House.times(16, "try{") + "u(n);" + House.times(16, "}catch{throw caught+1;}") + "}"
                + "fun u(n:int){if n==0{throw 0;}t(n-1);}" + House.main("try{t(18);}catch{print caught;}"), 1, 4);
        House.due("printed(0) behind tries in calls", 19 * 16, x.printed(0));
    }

    private static void manyBuilds() {
        PointerHouse x = new PointerHouse();
        String told = "'a'b(x:@'a int):@'b int where 'a>'b,'a>'a,'b>'b{return x;}fun main(){region 'u{f'H'u(cell'H(1));}}";
        House.due("build with where", 2, House.build(x, "fun f" + told));
        House.due("build with dead", 3, House.build(x, "fun g'a() dead 'a{}fun f" + told));
        House.due("build without", 2,
                House.build(x, "fun f'a'b(){}fun main(){region 'u{f'u'H();}}"));
        House.due("build without", 2, House.build(x, "fun f'a(x:@'a int):int{return x^;}fun main(){}"));
        for (int i = 0; i < 60; i++) {
            House.due("build " + i, i % 2 == 0 ? 2 : -1,
                    House.build(x, i % 2 == 0 ? "struct A{a:*'H A;};fun main(){print 1;}" : "fun main(){print (1;}"));
            House.due("start " + i, i % 2 == 0, x.start(1, 4));
        }
    }

    /** An object answers as it must up to its 512th call. */
    private static void allCalls() {
        String text = "fun main(){var i:int=0;while 1{i=i+1;print i;}}";
        PointerHouse x = new PointerHouse();
        House.build(x, text);
        int calls = (text.length() + 19) / 20 + 2;
        House.due("start", true, x.start(1, 4));
        calls++;
        int steps = 0;
        while (calls < 510) {
            House.due("run, call " + calls, 500, x.run(500));
            steps += 500;
            calls++;
        }
        House.due("steps, call 511", steps, x.world(0));
        House.due("numbers, call 512", (steps - 1) / 3, x.world(4));
    }

    /** No call throws, whatever comes; and the same calls give the same answers. */
    private static void anyCalls() {
        String[] texts = {
            "fun main(){while 1{var x:int=read;try{row'H(x,1)[x/2]=x;print 100/x;}catch{print caught;}}}",
            "fun f(n:int){region 'a{var p:@'a int=cell'a(n);if read{f(p^+1);}}}fun main(){while 1{f(0);}}",
            "union U{a:int;b:*'H U;};fun main(){var u:@'H U=new'H U.a(1);while 1{if u is a{u.b=u;}else{u.a=2;}print u.a;}}",
            "fun main(){print x;}", "fun main(){", "",
        };
        for (int seed = 1; seed <= 40; seed++) {
            House.due("answers of the calls of seed " + seed, answers(texts, seed), answers(texts, seed));
        }
    }

    private static long answers(String[] texts, int seed) {
        Random random = new Random(seed);
        PointerHouse x = new PointerHouse();
        long all = 0;
        for (int i = 0; i < 300; i++) {
            all = all * 31 + answer(x, texts, random);
        }
        return all;
    }

    private static int any(Random random) {
        return random.nextInt(4) == 0 ? random.nextInt() : random.nextInt(12) - 2;
    }

    private static long answer(PointerHouse x, String[] texts, Random random) {
        switch (random.nextInt(14)) {
            case 0:
                return x.feed(any(random), any(random), any(random), any(random), any(random));
            case 1:
                return x.end(any(random));
            case 2:
                return random.nextInt(6) == 0 ? x.build() : 0;
            case 3:
                return x.fault(any(random));
            case 4:
                return x.program(any(random));
            case 5:
                return x.start(random.nextInt(66), random.nextInt(67)) ? 1 : 0;
            case 6:
            case 7:
                return x.input(any(random));
            case 8:
                return x.run(random.nextInt(505));
            case 9:
                return x.state(any(random));
            case 10:
                return x.world(any(random));
            case 11:
                return x.region(any(random), any(random));
            case 12:
                return x.printed(any(random));
            default:
                return random.nextInt(3) == 0 && x.end(0) == 0 ? House.build(x, texts[random.nextInt(texts.length)]) : 0;
        }
    }
}
