/** Promises 7 to 10: start, input, run, state; and how a program RUNS. */
public final class RunTest {
    private static final String TITLES = "struct L'r{v:int;n:*'r L'r;};union U'r{i:int;p:*'r int;f:?'r int;};";
    private static final int DONE = 2;
    private static final int FAILED = 3;
    private static final int NO_ROOM = 4;
    private static final int TOO_DEEP = 5;

    public static void main(String[] args) {
        starting();
        inputs();
        running();
        places();
        numbers();
        pointers();
        rows();
        unions();
        errors();
        caughtNumbers();
        calls();
        room();
        depth();
        House.finish();
    }

    private static void starting() {
        PointerHouse x = House.sound("fun main(){print read;print read;}");
        int[][] wrong = {{0, 4}, {65, 4}, {1, 3}, {1, 65}, {-1, 8}, {8, -1}, {Integer.MAX_VALUE, 8}, {8, Integer.MIN_VALUE}};
        for (int[] w : wrong) {
            House.due("start(" + w[0] + ", " + w[1] + ")", false, x.start(w[0], w[1]));
            House.due("state(0) behind it", 0, x.state(0));
        }
        House.due("start(1, 4)", true, x.start(1, 4));
        x.input(5);
        x.run(1);
        House.due("a wrong start while it goes on", false, x.start(0, 4));
        House.due("changes nothing", 1, x.world(0));
        House.due("start(64, 64)", true, x.start(64, 64));
        House.due("steps behind a new start", 0, x.world(0));
        House.due("inputs behind a new start", 0, x.world(6));
        House.due("printed behind a new start", 0, x.printed(0));
        House.due("numbers behind a new start", 0, x.world(4));
        House.feed(x, "fun main(){}");
        House.due("a text alone ends nothing", 1, x.state(0));
        x.build();
        House.due("a build ends what runs", 0, x.state(0));
        House.due("and its world", 0, x.world(2));
        House.due("run behind build", -1, x.run(1));
        House.due("start of the empty main", true, x.start(1, 4));
        House.due("it is DONE at once", DONE, x.state(0));
        House.due("run then", -1, x.run(1));
        House.build(x, "x");
        House.due("a FAULT ends what is DONE, too", 0, x.state(0));
        House.due("start without a program", false, x.start(1, 4));
    }

    private static void inputs() {
        PointerHouse x = House.sound("fun main(){print read;while 1{print read+read*10;}}");
        x.start(1, 4);
        for (int i = 1; i <= 100; i++) {
            House.due("input " + i, i, x.input(i));
        }
        House.due("input 101", -1, x.input(101));
        House.due("inputs that wait", 100, x.world(6));
        x.run(1);
        House.due("printed(0)", 1, x.printed(0));
        House.due("input again", 100, x.input(Integer.MIN_VALUE));
        x.run(2);
        House.due("printed(1): from the left", (2 + 3) * 10, x.printed(1));
        House.due("inputs that wait", 98, x.world(6));
        x.run(500);
        House.due("behind the last one 0 comes", 0, x.printed(60));
        House.due("no inputs wait", 0, x.world(6));
        PointerHouse y = House.prints("fun main(){}", DONE);
        House.due("input when DONE", -1, y.input(1));
    }

    private static void running() {
        String text = "fun main(){var i:int=0;while i<3{i=i+1;}print i;}";
        PointerHouse x = House.sound(text);
        x.start(1, 4);
        House.due("run(0)", -1, x.run(0));
        House.due("run(501)", -1, x.run(501));
        House.due("run(-1)", -1, x.run(-1));
        House.due("run(500)", 1 + 4 + 3 + 1, x.run(500));
        House.due("state(0)", DONE, x.state(0));
        House.due("run when DONE", -1, x.run(1));
        x.start(1, 4);
        for (int i = 0; i < 9; i++) {
            House.due("state(0) ahead of step " + i, 1, x.state(0));
            House.due("run(1) for step " + i, 1, x.run(1));
        }
        House.due("state(0) behind the last step", DONE, x.state(0));
        PointerHouse y = House.sound("fun main(){while 1{}}");
        y.start(1, 4);
        House.due("run(500) of an endless one", 500, y.run(500));
        House.due("it goes on", 1, y.state(0));
    }

    private static void places() {
        // the # stand where STEPS begin, in the order in which they are done
        walk("fun main(){#var i:int=0;#while i<1{#i=i+1;}#if i{#print i;}}", 0, 1, 2, 1, 3, 4);
        walk("fun main(){#region 'a{#(1);}#try{#throw 1;}catch{#print 1;}}", 0, 1, 2, 3, 4);
        walk("fun f():int{#return 1;}fun main(){#print f()+f();#f();}", 1, 0, 0, 2, 0);
        walk("fun e(){}fun main(){#e();#if 0{#print 1;}else{}#while 0{}}", 0, 1, 3);
        walk("fun f(){#try{#throw 3;}catch{}}fun main(){#f();#print 1;}", 2, 0, 1, 3);
        PointerHouse x = House.ran("fun main(){if 1{}print 1/0;}", 1, 4);
        House.due("state(2) in STATE 3", 17, x.state(2));
        x = House.ran("fun f():int{return 0;}fun main(){if 1/f(){}}", 1, 4);
        House.due("state(2) behind a call", 33, x.state(2));
        House.due("calls in STATE 3", 1, x.world(3));
        x = House.ran("fun f():int{throw 7;}fun main(){f();}", 1, 4);
        House.due("state(2) in a call", 12, x.state(2));
        House.due("state(1)", 7, x.state(1));
        House.due("calls in STATE 3", 2, x.world(3));
        x = House.ran("fun main(){var i:int=2;while 1/i{i=i-1;}}", 1, 4);
        House.due("1/2 is 0, the while ends", DONE, x.state(0));
        x = House.ran("fun main(){var i:int=1;while 1/i{i=i-1;}}", 1, 4);
        House.due("state(2) at the while that asks again", 23, x.state(2));
        House.due("state(3)", -1, x.state(3));
        House.due("state(-1)", -1, x.state(-1));
    }

    private static void walk(String marked, int... order) {
        int[] place = new int[20];
        int marks = 0;
        for (int i = 0; i < marked.length(); i++) {
            if (marked.charAt(i) == '#') {
                place[marks] = i - marks;
                marks++;
            }
        }
        PointerHouse x = House.sound(marked.replace("#", ""));
        x.start(4, 4);
        for (int k = 0; k < order.length; k++) {
            House.due("place " + k + " of " + marked, place[order[k]], x.state(2));
            x.run(1);
        }
        House.due("state(0) behind " + marked, DONE, x.state(0));
        House.due("state(2) behind " + marked, -1, x.state(2));
        House.due("steps of " + marked, order.length, x.world(0));
    }

    private static void numbers() {
        House.prints(House.main("print 2+3*4;print 7-2-1;print 7/2;print (0-7)/2;print (0-7)%3;print 7%(0-3);"),
                DONE, 20, 4, 3, -3, -1, 1);
        House.prints(House.main("print 1<2;print 2<1;print 2==2;print 1==2;print (0-1)<0;print 1+1==2;"),
                DONE, 1, 0, 1, 0, 1, 1);
        House.prints(House.main("var x:int=999999999;x=x*3;print x;print x*x;"),
                DONE, (int) 2999999997L, (int) 2999999997L * (int) 2999999997L);
        House.prints(House.main("var m:int=1;var i:int=0;while i<31{m=m*2;i=i+1;}print m;print m/(0-1);print m%(0-1);print m-1;"),
                DONE, Integer.MIN_VALUE, Integer.MIN_VALUE, 0, Integer.MAX_VALUE);
        House.prints(House.main("if 0{print 1;}else{print 2;}if 0-1{print 3;}"), DONE, 2, 3);
    }

    private static void pointers() {
        House.prints(TITLES + House.main("var a:@'H L'H=new'H L'H{5,null};var b:*'H L'H=a;print a==b;b=new'H L'H{5,a};"
                + "print a==b;print b.n==a;print a.n==null;b.n.v=9;print a.v;print null==null;"), DONE, 1, 0, 1, 1, 9, 1);
        House.prints(TITLES + House.main("var l:@'H L'H=new'H L'H{1,null};var p:@'H int=&l.v;p^=7;print l.v;print p==&l.v;"
                + "var q:@'H *'H L'H=&l.n;q^=l;print l.n.n.v;"), DONE, 7, 1, 7);
        House.prints(House.main("var c:@'H @'H int=cell'H(cell'H(4));print c^^;c^^=5;c^=cell'H(c^^+1);print c^^;"), DONE, 4, 6);
        House.prints(House.main("var c:@'H ?'H int=cell'H(row'H(3,8)+1);print size(c^);print c^[1];c^[0]=2;print c^[0];"),
                DONE, 3, 8, 2);
        House.prints(TITLES + House.main("var p:*'H L'H=null;if 1{p=new'H L'H{6,null};}print 1+nn(p).v;"), DONE, 7);
        House.prints(TITLES + House.main("var p:*'H L'H=null;if p{print 1;}else{print 2;}p=new'H L'H{0,null};if p{print 3;}"
                + "while p{p=p.n;print 4;}"), DONE, 2, 3, 4);
    }

    private static void rows() {
        House.prints(House.main("var f:?'H int=row'H(4,7);f[2]=1;print f[2]+f[3];print size(f);print size(f+2);"
                + "print (f+2)[0];print (f+3)[0-1];print (f+100)[0-98];"), DONE, 8, 4, 4, 1, 1, 1);
        // wrapping: -2147483648 + -2147483648 is 0
        House.prints(House.main("var m:int=1;var i:int=0;while i<31{m=m*2;i=i+1;}print (row'H(1,6)+m)[m];"), DONE, 6);
        House.prints(House.main("print row'H(2,1)[2];"), FAILED);
        House.prints(House.main("print row'H(2,1)[0-1];"), FAILED);
        House.prints(House.main("try{row'H(0,1)[0]=1;}catch{print caught;}print size(row'H(0,1));"), DONE, 2, 0);
        House.prints(House.main("var a:@'H int=&row'H(4,9)[3];print a^;try{&row'H(4,9)[4];}catch{print caught;}"), DONE, 9, 2);
        House.prints(House.main("var f:?'H ?'H int=row'H(2,row'H(2,5));f[0][1]=6;print f[1][1];f[1]=row'H(1,3);print f[1][0];"
                + "print size(f[0]);"), DONE, 6, 3, 2);
        House.prints(House.main("region 'a{var f:?'a int=row'a(5,1);close 'a;print size(f);}"), DONE, 5);
        House.prints(House.main("var f:?'H int=row'H(3,1);var a:@'H int=&f[1];a^=5;print f[0]*100+(f[1]*10)+f[2];print a==&f[1];"
                + "print a==&f[2];print 10+size(f)*2;"), DONE, 151, 1, 0, 26);
    }

    private static void unions() {
        House.prints(TITLES + House.main("var u:@'H U'H=new'H U'H.i(3);print u.i;print u is i;print u is p;u.p=cell'H(4);"
                + "print u is i;print u.p^;u.f=row'H(2,8);print u.f[1];try{print u.i;}catch{print caught;}u.i=1;print u.i;"),
                DONE, 3, 1, 0, 0, 4, 8, 3, 1);
        House.prints(TITLES + House.main("var u:@'H U'H=new'H U'H.i(3);try{u.f[0]=1;}catch{print caught;}print u.i;"), DONE, 3, 3);
        House.prints(TITLES + House.main("var u:*'H U'H=null;try{u.i=1;}catch{print caught;}try{print u is i;}catch{print caught;}"
                + "try{print u.i;}catch{print caught;}"), DONE, 1, 1, 1);
    }

    private static void errors() {
        House.prints(TITLES + House.main("var p:*'H L'H=null;try{p.v=1;}catch{print caught;}try{print p.v;}catch{print caught;}"
                + "try{nn(p);}catch{print caught;}try{&p.v;}catch{print caught;}var q:*'H int=null;try{q^=1;}catch{print caught;}"
                + "try{print q^;}catch{print caught;}"), DONE, 1, 1, 1, 1, 1, 1);
        House.prints(House.main("try{print 1/0;}catch{print caught;}try{print 1%0;}catch{print caught;}"), DONE, 4, 4);
        // what comes first: the EXPR, then the PLACE's parts
        House.prints(House.main("var f:?'H int=row'H(1,0);try{f[1]=1/0;}catch{print caught;}try{f[1/0]=row'H(1,1)[1];}catch{print caught;}"),
                DONE, 4, 2);
        House.prints("fun t(n:int):int{print n;return n;}"
                + House.main("var f:?'H int=row'H(9,0);f[t(1)]=t(2);print t(3)+f[t(4)]-t(5);row'H(t(6),t(7));"),
                DONE, 2, 1, 3, 4, 5, -2, 6, 7);
        PointerHouse x = House.prints(House.main("region 'a{try{throw 5;}catch{throw 6;}}"), FAILED);
        House.due("state(1)", 6, x.state(1));
        House.due("errors that came", 2, x.world(7));
        House.due("nothing ends: the region stays", 2, x.world(2));
        x = House.prints(House.main("throw 0;"), FAILED);
        House.due("state(1) of throw 0", 0, x.state(1));
        x = House.prints(House.main("try{throw 0-5;}catch{print caught;}"), DONE, -5);
        House.due("state(1) but in STATE 3", 0, x.state(1));
        // SIZE is asked ahead of ROOM, and reckoned exactly
        House.printsIn(House.main("try{row'H(5,1);}catch{print caught;}try{row'H(0-1,1);}catch{print caught;}"
                + "try{row'H(999999999,row'H(0,1));}catch{print caught;}cell'H(1);try{row'H(5,1);}catch{print caught;}"
                + "var m:int=65536;try{row'H(m*m/4*4/4,1);}catch{print caught;}print 9;"), 1, 4, DONE, 5, 5, 5, 5, 9);
        House.printsIn(House.main("try{row'H(715827883*2,row'H(0,1));}catch{print caught;}"), 4, 4, DONE, 5);
        House.printsIn("struct B{a:?'H int;b:?'H int;};" + House.main("var r:?'H int=row'H(1,1);try{new'H B{r,r};}catch{print caught;}"),
                9, 5, DONE, 5);
        House.printsIn("struct B{a:?'H int;b:?'H int;};" + House.main("var r:?'H int=row'H(1,1);new'H B{r,r};"), 9, 6, DONE);
        House.printsIn("union B{a:?'H int;b:int;};" + House.main("new'H B.b(1);cell'H(row'H(0,1));"), 9, 4, DONE);
    }

    private static void caughtNumbers() {
        House.prints(House.main("try{throw 1;}catch{print caught;try{throw 2;}catch{print caught;}print caught;"
                + "try{print caught;throw caught+5;}catch{print caught;}print caught;}"), DONE, 1, 2, 1, 1, 6, 1);
        House.prints("fun f(n:int){try{throw n;}catch{if n{f(n-1);}print caught;}}" + House.main("f(3);"), DONE, 0, 1, 2, 3);
        // the innermost try whose first BLOCK is around
        House.prints(House.main("try{try{throw 1;}catch{throw 2;}}catch{print caught;}"), DONE, 2);
        House.prints("fun f(){try{return;}catch{print 9;}}" + House.main("try{f();throw 3;}catch{print caught;}"), DONE, 3);
        House.prints(House.main("var i:int=0;while i<3{try{i=i+1;if i==2{throw i;}}catch{print caught;}}print i;"), DONE, 2, 3);
        House.prints("fun f():int{region 'a{region 'b{throw 4;}}}" + House.main("region 'c{try{region 'd{print 1+f();}}catch{print caught;}}"),
                DONE, 4);
    }

    private static void calls() {
        House.prints("fun fib(n:int):int{if n<2{return n;}return fib(n-1)+fib(n-2);}" + House.main("print fib(12);"), DONE, 144);
        House.prints("fun pair(a:int,f:?'H int,b:int):?'H int{f[0]=a;f[1]=b;return f+1;}"
                + House.main("var g:?'H int=pair(3,row'H(2,0),4);print g[0];print g[0-1];print size(g);"), DONE, 4, 3, 2);
        House.prints("fun mk'r(n:int):@'r int{return cell'r(n);}fun two'a'b():int{return mk'a(1)^+mk'b(2)^;}"
                + House.main("region 'x{region 'y{print two'x'y()+two'y'H();}}"), DONE, 6);
        PointerHouse x = House.sound("fun t'a'b'c(){cell'c(1);cell'c(2);cell'b(3);}"
                + House.main("region 'x{region 'y{t'H'x'y();print 1;}}"));
        x.start(9, 4);
        x.run(6);
        House.due("objects in 'H", 0, x.region(0, 2));
        House.due("objects in the second told", 1, x.region(1, 2));
        House.due("objects in the third told", 2, x.region(2, 2));
        House.prints("fun f(){if 0{return;}}" + House.main("f();print 1;return;print 2;"), DONE, 1);
        House.prints("fun a(n:int):int{if n==0{return 7;}return b(n-1);}fun b(n:int):int{return a(n);}" + House.main("print a(19);"), DONE, 7);
    }

    private static void room() {
        PointerHouse x = House.printsIn(House.main("cell'H(1);row'H(3,1);try{print 1;cell'H(1);}catch{print 2;}"), 1, 4, NO_ROOM, 1);
        House.due("state(1) in STATE 4", 0, x.state(1));
        House.due("no ERROR came", 0, x.world(7));
        House.due("objects made", 2, x.world(5));
        House.due("run in STATE 4", -1, x.run(1));
        House.due("input in STATE 4", -1, x.input(1));
        House.printsIn(House.main("cell'H(1);row'H(3,1);row'H(0,1);print 1;"), 1, 4, DONE, 1);
        House.printsIn(House.main("var i:int=0;while i<9{region 'a{row'a(4,i);}i=i+1;}print i;"), 1, 4, DONE, 9);
        House.printsIn(House.main("region 'a{row'a(4,1);region 'b{row'b(1,1);}}"), 1, 4, NO_ROOM);
        House.printsIn(House.main("region 'a{row'a(4,1);close 'a;region 'b{row'b(1,1);}}"), 1, 4, DONE);
    }

    private static void depth() {
        String f = "fun f(n:int):int{if n==0{return 0;}return 1+f(n-1);}";
        House.prints(f + House.main("print f(38);"), DONE, 38);
        PointerHouse x = House.prints(f + House.main("try{print f(39);}catch{print 1;}"), TOO_DEEP);
        House.due("calls in one another", 40, x.world(3));
        House.due("state(2) in STATE 5", 35, x.state(2));
        // the ARGUMENTS come first
        House.prints("fun g(n:int){print n;g(n+1+(0/(38-n)));}" + House.main("g(0);"), FAILED,
                0, 1, 2, 3, 4, 5, 6, 7, 8, 9, 10, 11, 12, 13, 14, 15, 16, 17, 18, 19, 20, 21, 22, 23, 24, 25, 26, 27, 28,
                29, 30, 31, 32, 33, 34, 35, 36, 37, 38);
    }
}
