/** How a program RUNS, sentence by sentence: WORDS, pages, STATES, ERRORS, wrapping (promises 7 to 13). */
public final class RunBoundsTest {
    private static final String HEADS = "struct L'r{v:int;n:*'r L'r;};union U'r{i:int;p:*'r int;f:?'r int;};struct F{a:int;b:int;c:int;d:int;};"
            + "struct G{a:int;b:int;c:int;d:int;e:int;};";
    private static final int MIN = Integer.MIN_VALUE;
    private static final int MAX = Integer.MAX_VALUE;
    private static final int GOES_ON = 1;
    private static final int DONE = 2;
    private static final int FAILED = 3;
    private static final int NO_ROOM = 4;
    private static final int TOO_DEEP = 5;

    public static void main(String[] args) {
        words();
        lastPage();
        zeroWords();
        pagesFree();
        endsOfRegions();
        heapStays();
        noRoom();
        tooDeep();
        nullErrors();
        boundsErrors();
        boundsWrap();
        tagErrors();
        zeroErrors();
        sizeErrors();
        sizeExactly();
        sizeAheadOfRoom();
        throwErrors();
        innermostTry();
        caughtNumber();
        nothingEnds();
        fromTheLeft();
        rowsMove();
        sizes();
        alike();
        numbersWrap();
        cutOff();
        assignments();
        questions();
        reads();
        stepsCounted();
        goesOn();
        House.finish();
    }

    private static void made(String steps, int words, int objects) {
        PointerHouse x = House.ran(HEADS + House.main(steps), 64, 64);
        House.due("state(0) of " + steps, DONE, x.state(0));
        House.due("WORDS of " + steps, words, x.region(0, 1));
        House.due("objects of " + steps, objects, x.region(0, 2));
    }

    /** What main prints with these inputs, and the STATE it ends in. */
    private static void printed(String steps, int[] inputs, int state, int... numbers) {
        PointerHouse x = House.ran(HEADS + House.main(steps), 64, 64, inputs);
        House.due("state(0) of " + steps, state, x.state(0));
        House.due("numbers of " + steps, numbers.length, x.world(4));
        for (int k = 0; k < numbers.length; k++) {
            House.due("printed(" + k + ") of " + steps, numbers[k], x.printed(k));
        }
        House.due("world(8) of " + steps, 0, x.world(8));
    }

    private static int[] in(int... numbers) {
        return numbers;
    }

    private static void words() {
        House.sentence("WORDS: 1 of int, @, *; 3 of ?; of a struct the sum of its fields; of a union 1 and the most of its fields; of a row its size times ..");
        made("cell'H(1);", 1, 1);
        made("cell'H(cell'H(1));", 2, 2);
        made("var p:*'H int=null;cell'H(p);", 1, 1);
        made("cell'H(row'H(0,1));", 3, 2);
        made("new'H L'H{1,null};", 2, 1);
        made("new'H F{1,2,3,4};", 4, 1);
        made("new'H G{1,2,3,4,5};", 5, 1);
        made("new'H U'H.i(1);", 4, 1);
        made("new'H U'H.f(row'H(0,1));", 4, 2);
        made("row'H(7,1);", 7, 1);
        made("row'H(1,1);", 1, 1);
        made("row'H(64,1);", 64, 1);
        made("row'H(5,row'H(0,1));", 15, 2);
        made("var p:*'H int=null;row'H(6,p);", 6, 1);
        PointerHouse x = House.ran("struct S{a:int;b:?'H int;c:@'H int;d:*'H int;};union V{a:int;b:int;};"
                + House.main("new'H S{1,row'H(0,1),cell'H(1),null};new'H V.b(1);"), 64, 64);
        House.due("WORDS of a struct with a row, and of a small union", 6 + 1 + 2, x.region(0, 1));
    }

    private static void region(PointerHouse x, int i, int pages, int words, int objects) {
        House.due("region(" + i + ", 0)", pages, x.region(i, 0));
        House.due("region(" + i + ", 1)", words, x.region(i, 1));
        House.due("region(" + i + ", 2)", objects, x.region(i, 2));
    }

    private static void lastPage() {
        House.sentence("a new object lies in its last page, behind the others, if it fits there, else it takes another page");
        PointerHouse x = House.startedIn(House.main("row'H(3,1);row'H(5,1);row'H(1,1);row'H(6,1);row'H(2,1);row'H(2,1);row'H(7,1);row'H(1,1);"), 9, 8);
        region(x, 0, 0, 0, 0);
        int[][] due = {{1, 3, 1}, {1, 8, 2}, {2, 9, 3}, {2, 15, 4}, {3, 17, 5}, {3, 19, 6}, {4, 26, 7}, {4, 27, 8}};
        for (int[] one : due) {
            x.run(1);
            region(x, 0, one[0], one[1], one[2]);
            House.due("pages in use", one[0], x.world(1));
        }
        // a region's pages are its own, though others lie between
        x = House.startedIn(House.main("region 'a{row'a(3,1);row'H(1,1);row'a(1,1);row'H(3,1);row'a(1,1);row'H(1,1);}"), 9, 4);
        x.run(7);
        House.due("state(0)", DONE, x.state(0));
        x = House.startedIn(House.main("region 'a{row'a(3,1);row'H(1,1);row'a(1,1);row'H(3,1);row'a(1,1);row'H(1,1);1;}"), 9, 4);
        x.run(7);
        region(x, 0, 2, 5, 3);
        region(x, 1, 2, 5, 3);
        House.due("pages in use", 4, x.world(1));
        // a cell is where it was told, whatever lies behind it
        printed("var c:@'H int=cell'H(1);var f:?'H int=row'H(64,2);var d:@'H int=cell'H(3);f[0]=4;f[63]=5;print c^;print d^;print f[63];", in(), DONE, 1, 3, 5);
    }

    private static void zeroWords() {
        House.sentence("(one of 0 WORDS needs none, and lies nowhere)");
        PointerHouse x = House.startedIn(House.main("row'H(0,1);row'H(4,1);row'H(0,1);row'H(0,row'H(0,1));print 1;row'H(1,1);"), 1, 4);
        x.run(1);
        region(x, 0, 0, 0, 1);
        x.run(1);
        region(x, 0, 1, 4, 2);
        x.run(1);
        region(x, 0, 1, 4, 3);
        x.run(2);
        region(x, 0, 1, 4, 5);
        House.due("it goes on", GOES_ON, x.state(0));
        House.due("objects made", 5, x.world(5));
        x.run(1);
        House.due("one of a WORD needs a page", NO_ROOM, x.state(0));
        House.due("objects made", 5, x.world(5));
        printed("var f:?'H int=row'H(0,7);print size(f);try{f[0]=1;}catch{print caught;}try{print f[0-1];}catch{print caught;}", in(), DONE, 0, 2, 2);
    }

    private static void pagesFree() {
        House.sentence("then all in it is gone, and its pages are free");
        PointerHouse x = House.ran(House.main("var i:int=0;while i<70{region 'a{row'a(4,i);row'a(4,i);}i=i+1;}print i;"), 2, 4);
        House.due("state(0)", DONE, x.state(0));
        House.due("objects made", 140, x.world(5));
        House.due("pages in use", 0, x.world(1));
        x = House.ran(House.main("region 'a{row'a(4,1);close 'a;region 'b{row'b(4,1);row'H(4,1);}}"), 2, 4);
        House.due("state(0) with close", DONE, x.state(0));
        x = House.ran(House.main("region 'a{row'a(4,1);region 'b{row'b(4,1);row'H(4,1);}}"), 2, 4);
        House.due("state(0) without close", NO_ROOM, x.state(0));
        // a new one begins empty, in pages that held other numbers
        printed("region 'a{row'a(9,7);}region 'b{var f:?'b int=row'b(9,0);print f[0]+f[8];}", in(), DONE, 0);
    }

    private static void endsOfRegions() {
        House.sentence("a region STEP's from there to close, or the end of its BLOCK, however that is left");
        // by its end
        PointerHouse x = House.started(House.main("region 'a{cell'a(1);}1;"));
        House.due("regions ahead of it", 1, x.world(2));
        x.run(1);
        House.due("regions in it", 2, x.world(2));
        x.run(1);
        House.due("regions behind its end", 1, x.world(2));
        // by close
        x = House.started(House.main("region 'a{cell'a(1);close 'a;1;}1;"));
        x.run(2);
        House.due("regions ahead of close", 2, x.world(2));
        House.due("pages ahead of close", 1, x.world(1));
        x.run(1);
        House.due("regions behind close", 1, x.world(2));
        House.due("pages behind close", 0, x.world(1));
        x.run(1);
        House.due("regions behind its end", 1, x.world(2));
        // by return, from the innermost
        x = House.started("fun f(){region 'a{cell'a(1);region 'b{cell'b(1);return;}}}" + House.main("region 'c{f();1;}"));
        x.run(6);
        House.due("regions ahead of return", 4, x.world(2));
        House.due("pages ahead of return", 2, x.world(1));
        x.run(1);
        House.due("regions behind return", 2, x.world(2));
        House.due("pages behind return", 0, x.world(1));
        // by an ERROR, in this fun and in others
        x = House.started("fun f(){region 'a{cell'a(1);region 'b{cell'b(1/0);}}}"
                + House.main("region 'c{try{region 'd{cell'd(1);f();}}catch{1;}}"));
        x.run(8);
        House.due("regions ahead of the ERROR", 5, x.world(2));
        x.run(1);
        House.due("regions behind the ERROR", 2, x.world(2));
        House.due("pages behind the ERROR", 0, x.world(1));
        House.due("calls behind the ERROR", 1, x.world(3));
        // by return of main
        x = House.ran(House.main("region 'a{region 'b{cell'b(1);return;}}"), 4, 4);
        House.due("regions when DONE", 1, x.world(2));
        House.due("pages when DONE", 0, x.world(1));
        // a while opens it anew each time
        x = House.started(House.main("while 1{region 'a{cell'a(1);}}"));
        x.run(300);
        House.due("regions in the while", 1, x.world(2));
        House.due("objects made in the while", 100, x.world(5));
    }

    private static void heapStays() {
        House.sentence("'H is there as long as the STATE is not 0 (DONE, too)");
        PointerHouse x = House.started(House.main("cell'H(1);"));
        region(x, 0, 0, 0, 0);
        x.run(1);
        House.due("state(0)", DONE, x.state(0));
        region(x, 0, 1, 1, 1);
        House.due("regions when DONE", 1, x.world(2));
        x.build();
        House.due("region(0, 0) when nothing runs", -1, x.region(0, 0));
        House.due("regions when nothing runs", 0, x.world(2));
        x = House.ran(House.main("cell'H(1/0);"), 1, 4);
        region(x, 0, 0, 0, 0);
        House.due("regions in STATE 3", 1, x.world(2));
    }

    private static void noRoom() {
        House.sentence("4 no ROOM: an object needs a page, and none is free");
        for (int pages : new int[] {1, 2, 63, 64}) {
            String steps = "var i:int=0;while i<" + pages + "{row'H(4,1);i=i+1;}";
            House.printsIn(House.main(steps + "print 1;"), pages, 4, DONE, 1);
            PointerHouse x = House.printsIn(House.main(steps + "try{print 1;cell'H(1);print 2;}catch{print 3;}"), pages, 4, NO_ROOM, 1);
            House.due("pages in use", pages, x.world(1));
            House.due("objects made", pages, x.world(5));
            House.due("ERRORS", 0, x.world(7));
            House.due("state(1)", 0, x.state(1));
            House.due("run", -1, x.run(1));
            House.due("input", -1, x.input(1));
        }
        // whatever the object is, it is not made, and nothing is touched for it
        for (String made : new String[] {"cell'H(1)", "row'H(2,1)", "new'H L'H{1,null}", "new'H U'H.i(1)", "new'H U'H.f(row'H(0,1))", "cell'H(row'H(0,1))"}) {
            String text = HEADS + House.main("new'H F{1,2,3,4};var i:int=5;i=1+(0*i);" + made + ";");
            PointerHouse x = House.ran(text, 1, 4);
            House.due("state(0) of " + made, NO_ROOM, x.state(0));
            House.due("WORDS behind " + made, 4, x.region(0, 1));
            House.due("objects behind " + made, made.contains("row'H(0") ? 2 : 1, x.world(5));
            House.due("world(8) behind " + made, 0, x.world(8));
            House.due("state(2) of " + made, text.indexOf(made + ";"), x.state(2));
        }
        // it needs none as long as the last one has room
        House.printsIn(House.main("row'H(3,1);cell'H(1);print 1;"), 1, 4, DONE, 1);
        House.printsIn(House.main("row'H(3,1);row'H(2,1);print 1;"), 1, 4, NO_ROOM);
        House.printsIn(House.main("row'H(64,1);print 1;"), 1, 64, DONE, 1);
        House.printsIn(House.main("row'H(63,1);cell'H(1);print 1;cell'H(1);"), 1, 64, NO_ROOM, 1);
        PointerHouse x = House.ran(House.main("cell'H(1);region 'a{ cell'a(1);}"), 1, 4);
        House.due("state(2) at the STEP", 11 + 10 + 10 + 1, x.state(2));
        House.due("it may start again", true, x.start(2, 4));
        x.run(500);
        House.due("with two pages it is DONE", DONE, x.state(0));
    }

    private static void tooDeep() {
        House.sentence("5 too DEEP: a call would be the 41st in others (main is 1)");
        String f = "fun f(n:int):int{if n==0{return 0;}return 1+f(n-1);}";
        House.prints(f + House.main("print f(38);"), DONE, 38);
        PointerHouse x = House.prints(f + House.main("print f(39);"), TOO_DEEP);
        House.due("calls", 40, x.world(3));
        House.due("state(1)", 0, x.state(1));
        House.due("ERRORS", 0, x.world(7));
        House.due("state(2) in the innermost fun", f.indexOf("return 1"), x.state(2));
        House.due("run", -1, x.run(1));
        // main is 1 for itself, too
        x = House.prints(House.main("main();"), TOO_DEEP);
        House.due("calls of main", 40, x.world(3));
        House.due("steps of main", 40, x.world(0));
        // those that are over don't count
        House.prints(f + House.main("var i:int=0;while i<3{print f(38);i=i+1;}"), DONE, 38, 38, 38);
        House.prints(f + House.main("print f(f(38));"), DONE, 38);
        House.prints(f + House.main("print f(f(38)+1);"), TOO_DEEP);
        House.prints("fun g(n:int){if n==0{throw 5;}g(n-1);}" + House.main("var i:int=0;while i<3{try{g(38);}catch{print caught;}i=i+1;}"),
                DONE, 5, 5, 5);
        // its ARGUMENTS come first
        House.prints("fun g(n:int,m:int){print n;g(n+1,1/(38-n));}" + House.main("try{g(0,0);}catch{print 0-caught;}"), DONE,
                0, 1, 2, 3, 4, 5, 6, 7, 8, 9, 10, 11, 12, 13, 14, 15, 16, 17, 18, 19, 20, 21, 22, 23, 24, 25, 26, 27, 28, 29, 30, 31, 32, 33, 34,
                35, 36, 37, 38, -4);
    }

    private static void nullErrors() {
        House.sentence("ERRORS: 1 NULL; E.f: E; NULL. E^, E is m, nn: E; NULL. & likewise");
        String p = "var l:*'H L'H=null;var u:*'H U'H=null;var c:*'H int=null;if read{l=new'H L'H{1,null};u=new'H U'H.i(2);c=cell'H(3);}";
        String[] steps = {"print l.v;", "l.v=7;print 7;", "&l.v;print 8;", "print c^;", "c^=9;print 9;", "print u is i;", "print u.i;", "u.i=6;print 6;",
            "print nn(l).v;", "nn(c);print 5;"};
        int[] due = {1, 7, 8, 3, 9, 1, 2, 6, 1, 5};
        for (int i = 0; i < steps.length; i++) {
            printed(p + steps[i], in(1), DONE, due[i]);
            PointerHouse x = House.ran(HEADS + House.main(p + steps[i]), 4, 4, 0);
            House.due("state(0) of " + steps[i], FAILED, x.state(0));
            House.due("state(1) of " + steps[i], 1, x.state(1));
            House.due("world(7) of " + steps[i], 1, x.world(7));
        }
        printed(p + "print l==null;if l{print 1;}cell'H(l);c=c;print 2;", in(0), DONE, 1, 2);
        printed(p + "try{print l.n.v;}catch{print caught;}", in(1), DONE, 1);
    }

    private static void boundsErrors() {
        House.sentence("2 BOUNDS, if the place it stands at + i (wrapping) is not one of the row's");
        String f = "var n:int=read;var f:?'H int=row'H(n,5);var i:int=read;var j:int=read;";
        for (int size = 0; size <= 3; size++) {
            for (int at = -2; at <= 4; at++) {
                for (int i = -4; i <= 5; i++) {
                    boolean in = at + i >= 0 && at + i < size;
                    printed(f + "f=f+i;try{print f[j];}catch{print 0-caught;}", in(size, at, i), DONE, in ? 5 : -2);
                }
            }
        }
        for (int i : new int[] {-1, 0, 2, 3, MIN, MAX}) {
            boolean in = i == 0 || i == 2;
            printed(f + "try{f[i]=8;print f[i];}catch{print 0-caught;}", in(3, i), DONE, in ? 8 : -2);
            printed(f + "try{(&f[i])^=8;print f[i];}catch{print 0-caught;}", in(3, i), DONE, in ? 8 : -2);
        }
        // of rows of rows, each its own
        printed("var f:?'H ?'H int=row'H(2,row'H(3,1));try{print f[1][2];print f[2][1];}catch{print caught;}", in(), DONE, 1, 2);
        printed("var f:?'H ?'H int=row'H(3,row'H(2,1));try{print f[2][1];print f[1][2];}catch{print caught;}", in(), DONE, 1, 2);
    }

    private static void boundsWrap() {
        House.sentence("E[i]: .. the place it stands at + i (wrapping); E + i: a pointer i places on (wrapping; asked nothing)");
        String f = "var f:?'H int=row'H(2,5)+read;try{print f[read];}catch{print 0-caught;}";
        printed(f, in(MIN, MIN), DONE, 5);
        printed(f, in(MAX, MIN + 1), DONE, 5);
        printed(f, in(MAX, MIN + 2), DONE, 5);
        printed(f, in(MAX, MIN + 3), DONE, -2);
        printed(f, in(MAX, MIN), DONE, -2);
        printed(f, in(MAX, 1), DONE, -2);
        printed(f, in(MIN, MAX), DONE, -2);
        printed(f, in(MIN, -1), DONE, -2);
        printed("var f:?'H int=row'H(2,5)+read+read;print f[0];", in(MIN, MIN), DONE, 5);
        printed("var f:?'H int=row'H(2,5)+read+read;print f[0];", in(MAX, MAX), FAILED);
        printed("var f:?'H int=row'H(2,5)+read+read;print f[2];", in(MAX, MAX), DONE, 5);
        printed("var f:?'H int=row'H(2,5)+read+read+read;print f[0];print size(f);", in(MAX, 1, MIN), DONE, 5, 2);
        // of a row of ? the place times three WORDS is not asked ahead of BOUNDS
        printed("var f:?'H ?'H int=row'H(2,row'H(1,5));try{print f[read][0];}catch{print caught;}", in(1431655766), DONE, 2);
        printed("var f:?'H ?'H int=row'H(2,row'H(1,5));try{print f[read][0];}catch{print caught;}", in(-1431655765), DONE, 2);
    }

    private static void tagErrors() {
        House.sentence("3 TAG, if f is not the union's field now. .. E is m (1 or 0)");
        printed("var u:@'H U'H=new'H U'H.i(5);print u.i;print u is i;print u is p;print u is f;try{u.p;}catch{print caught;}"
                + "try{u.f;}catch{print caught;}", in(), DONE, 5, 1, 0, 0, 3, 3);
        printed("var u:@'H U'H=new'H U'H.f(row'H(2,5));print u.f[1];print u is i;print u is f;try{u.p;}catch{print caught;}"
                + "try{print u.i;}catch{print caught;}", in(), DONE, 5, 0, 1, 3, 3);
        printed("var u:@'H U'H=new'H U'H.i(5);u.p=null;print u is p;try{u.i;}catch{print caught;}u.i=6;print u.i;", in(), DONE, 1, 3, 6);
        PointerHouse x = House.ran(HEADS + House.main("new'H U'H.i(5).p;"), 4, 4);
        House.due("state(1)", 3, x.state(1));
        // NULL is asked ahead of TAG
        printed("var u:*'H U'H=null;try{u.p;}catch{print caught;}try{u.p=null;}catch{print caught;}", in(), DONE, 1, 1);
    }

    private static void zeroErrors() {
        House.sentence("4 ZERO (/ or % by 0)");
        printed("try{print read/read;}catch{print 0-caught;}", in(6, 0), DONE, -4);
        printed("try{print read%read;}catch{print 0-caught;}", in(6, 0), DONE, -4);
        printed("try{print read/read;}catch{print 0-caught;}", in(0, 0), DONE, -4);
        printed("print read/read;print read%read;", in(0, 1, 0, -1), DONE, 0, 0);
        printed("print read/read;print read%read;", in(6, 1, 6, -1), DONE, 6, 0);
        PointerHouse x = House.ran(House.main("1/0;"), 1, 4);
        House.due("state(1)", 4, x.state(1));
    }

    private static void sized(String steps, int words, boolean fits, int... inputs) {
        PointerHouse x = House.ran(HEADS + House.main("try{" + steps + "print 1;}catch{print 0-caught;}"), 4, words, inputs);
        House.due("state(0) of " + steps + " in " + words, DONE, x.state(0));
        House.due("printed(0) of " + steps + " in " + words, fits ? 1 : -5, x.printed(0));
        House.due("ERRORS of " + steps + " in " + words, fits ? 0 : 1, x.world(7));
    }

    private static void sizeErrors() {
        House.sentence("5 SIZE (an object of more WORDS than a page, or a row's size below 0)");
        for (int words : new int[] {4, 5, 63, 64}) {
            sized("row'H(read,1);", words, true, words - 1);
            sized("row'H(read,1);", words, true, words);
            sized("row'H(read,1);", words, false, words + 1);
            sized("row'H(read,1);", words, true, 0);
            sized("row'H(read,1);", words, false, -1);
            sized("row'H(read,1);", words, false, MIN);
            sized("row'H(read,1);", words, false, MAX);
            sized("row'H(read,row'H(0,1));", words, true, words / 3);
            sized("row'H(read,row'H(0,1));", words, false, words / 3 + 1);
            sized("row'H(read,row'H(0,1));", words, false, -1);
        }
        sized("new'H F{1,2,3,4};", 4, true);
        sized("new'H G{1,2,3,4,5};", 4, false);
        sized("new'H G{1,2,3,4,5};", 5, true);
        sized("new'H U'H.f(row'H(0,1));", 4, true);
        sized("cell'H(row'H(0,1));", 4, true);
        String eight = "struct S{a:?'H int;b:?'H int;c:?'H int;d:?'H int;e:?'H int;f:?'H int;g:?'H int;h:?'H int;};"
                + House.main("var f:?'H int=row'H(0,1);try{new'H S{f,f,f,f,f,f,f,f};print 1;}catch{print caught;}");
        House.printsIn(eight, 1, 24, DONE, 1);
        House.printsIn(eight, 1, 23, DONE, 5);
        PointerHouse x = House.ran(House.main("row'H(5,1);"), 1, 4);
        House.due("state(0)", FAILED, x.state(0));
        House.due("state(1)", 5, x.state(1));
        House.due("objects made", 0, x.world(5));
    }

    private static void sizeExactly() {
        House.sentence("reckoned exactly");
        // times three these wrap to 0, 1, 2, 3 and the like
        for (int size : new int[] {1431655765, 1431655766, 1431655767, 715827883, 715827882, -1431655765, -1431655764, -715827882, -715827883,
            1 << 30, MIN, MAX, -1}) {
            sized("row'H(read,row'H(0,1));", 64, false, size);
            sized("row'H(read,1);", 64, false, size);
        }
    }

    private static void sizeAheadOfRoom() {
        House.sentence("asked ahead of ROOM");
        House.printsIn(House.main("row'H(4,1);try{row'H(5,1);}catch{print caught;}try{row'H(0-1,1);}catch{print caught;}row'H(4,1);"), 1, 4, NO_ROOM, 5, 5);
        House.printsIn(HEADS + House.main("row'H(4,1);try{new'H G{1,2,3,4,5};}catch{print caught;}new'H F{1,2,3,4};"), 1, 4, NO_ROOM, 5);
        // the parts, then the object
        House.printsIn(House.main("row'H(4,1);try{row'H(1/0,cell'H(1));}catch{print caught;}try{row'H(0-1,cell'H(1));}catch{print 9;}"), 1, 4, NO_ROOM, 4);
    }

    private static void throwErrors() {
        House.sentence("any other by throw");
        for (int number : new int[] {0, 1, 5, 6, -1, 99, MIN, MAX}) {
            printed("try{throw read;}catch{print caught;}", in(number), DONE, number);
            PointerHouse x = House.ran(House.main("throw read;"), 1, 4, number);
            House.due("state(0)", FAILED, x.state(0));
            House.due("state(1)", number, x.state(1));
            House.due("ERRORS", 1, x.world(7));
        }
        printed("try{throw 1/0;}catch{print caught;}", in(), DONE, 4);
    }

    private static void innermostTry() {
        House.sentence("An ERROR ends the BLOCKS, calls and regions around it up to the innermost try whose first BLOCK is around; the second one is done then");
        printed("try{try{throw 1;}catch{print 10+caught;}print 20;}catch{print 30;}", in(), DONE, 11, 20);
        printed("try{try{print 1;}catch{print 2;}throw 3;}catch{print caught;}", in(), DONE, 1, 3);
        printed("try{try{throw 1;}catch{throw 2;}print 9;}catch{print caught;}print 4;", in(), DONE, 2, 4);
        printed("try{throw 1;}catch{throw 2;}print 9;", in(), FAILED);
        printed("try{}catch{print 9;}throw 3;", in(), FAILED);
        printed("try{if 1{while 1{region 'a{throw 7;}}}print 9;}catch{print caught;}print 1;", in(), DONE, 7, 1);
        House.prints("fun f(){throw 7;}fun g(){f();print 9;}" + House.main("try{g();print 9;}catch{print caught;}"), DONE, 7);
        House.prints("fun f(){try{throw 7;}catch{print caught;}}" + House.main("try{f();print 8;}catch{print 9;}"), DONE, 7, 8);
        House.prints("fun f(){try{return;}catch{print 9;}}" + House.main("try{f();throw 6;}catch{print caught;}"), DONE, 6);
        House.prints("fun f():int{try{throw 7;}catch{return caught;}}" + House.main("print 1+f()*2;"), DONE, 16);
        // what was reckoned up to the ERROR is gone, not more
        printed("var x:int=1;try{x=2;x=3+(1/0);}catch{print x;}print 10+x;", in(), DONE, 2, 12);
        House.prints("fun f(n:int):int{if n==0{throw 5;}return n;}"
                + House.main("var x:int=7;try{x=f(1)+f(2)*f(0);}catch{print caught;}print x;print f(3);"), DONE, 5, 7, 3);
    }

    private static void caughtNumber() {
        House.sentence("in which caught is the number (of the innermost such BLOCK around)");
        printed("try{throw 1;}catch{print caught;try{throw 2;}catch{print caught;}print caught;}", in(), DONE, 1, 2, 1);
        printed("try{throw 1;}catch{try{print caught;throw 2;}catch{print caught;}print caught;}", in(), DONE, 1, 2, 1);
        printed("try{throw 1;}catch{try{throw caught+1;}catch{try{throw caught+1;}catch{print caught;}print caught;}print caught;}", in(), DONE, 3, 2, 1);
        House.prints("fun f(n:int){try{throw n;}catch{if n<3{f(n+1);}print caught;}}" + House.main("try{throw 9;}catch{f(1);print caught;}"),
                DONE, 3, 2, 1, 9);
        printed("var i:int=0;while i<3{try{throw i;}catch{print caught;}i=i+1;}", in(), DONE, 0, 1, 2);
    }

    private static void nothingEnds() {
        House.sentence("Where none is around, and in the STATES 4 and 5, nothing ends: all stays as it is then.");
        String f = "fun f(n:int){region 'a{cell'a(n);if n==2{~}f(n+1);}}";
        String[] ends = {"1/0;", "throw 8;", "row'H(4,1);cell'H(1);", "main();"};
        int[] states = {FAILED, FAILED, NO_ROOM, TOO_DEEP};
        for (int i = 0; i < ends.length; i++) {
            String text = f.replace("~", ends[i]) + House.main("region 'm{f(1);}");
            PointerHouse x = House.ran(text, i == 2 ? 3 : 64, 4, 1, 2);
            House.due("state(0) of " + text, states[i], x.state(0));
            House.due("inputs stay", 2, x.world(6));
            if (i < 3) {
                House.due("calls stay", 3, x.world(3));
                House.due("regions stay", 4, x.world(2));
                House.due("objects stay", 1, x.region(3, 2));
                House.due("state(2)", text.indexOf(i == 2 ? "cell'H" : ends[i]), x.state(2));
            } else {
                House.due("calls stay", 40, x.world(3));
                House.due("regions stay", 1 + 40, x.world(2));
            }
            int steps = x.world(0);
            House.due("run", -1, x.run(1));
            House.due("steps stay", steps, x.world(0));
        }
    }

    private static void fromTheLeft() {
        House.sentence("All is done from the left, parts first");
        String p = "fun p(n:int):int{print n;return n;}fun r'a(n:int):?'a int{print n;return row'a(9,0);}fun l(n:int):@'H L'H{print n;return new'H L'H{0,null};}"
                + "fun t(a:int,b:int,c:int):int{return a*100+(b*10)+c;}";
        House.prints(HEADS + p + House.main("print p(1)-p(2)*p(3);"), DONE, 1, 2, 3, -3);
        House.prints(HEADS + p + House.main("print t(p(1),p(2),p(3));"), DONE, 1, 2, 3, 123);
        House.prints(HEADS + p + House.main("r'H(1)[p(2)];row'H(p(3),p(4));new'H F{p(5),p(6),p(7),p(8)};"), DONE, 1, 2, 3, 4, 5, 6, 7, 8);
        // PLACE = EXPR: EXPR, then the PLACE's parts
        House.prints(HEADS + p + House.main("r'H(2)[p(3)]=p(1);l(5).v=p(4);"), DONE, 1, 2, 3, 4, 5);
        House.prints(HEADS + House.main("print read-read*read;"), DONE, 0);
        printed("print read-read*read;", in(9, 4, 3), DONE, 15);
        // and what is asked there comes behind it
        printed("var f:?'H int=row'H(1,1);try{f[9]=1/0;}catch{print caught;}try{f[1/0]=f[9];}catch{print caught;}try{f[9]=2;}catch{print caught;}",
                in(), DONE, 4, 2, 2);
        printed("var l:*'H L'H=null;try{l.v=1/0;}catch{print caught;}try{l.v=1;}catch{print caught;}", in(), DONE, 4, 1);
    }

    private static void rowsMove() {
        House.sentence("of a ? it has the row, and at which of its places it stands");
        printed("var f:?'H int=row'H(4,0);var i:int=0;while i<4{f[i]=i*i;i=i+1;}var g:?'H int=f+1;print g[0];print g[2];print (g+1)[1];"
                + "g=g+(0-1);print g[3];f[0]=7;print g[0];print size(g+3);", in(), DONE, 1, 9, 9, 9, 7, 4);
        printed("var f:?'H ?'H int=row'H(3,row'H(2,1));f[1]=row'H(5,2)+3;print size(f[1]);print f[1][1];print f[0][1];print (f+1)[0][0-3];", in(), DONE,
                5, 2, 1, 2);
    }

    private static void sizes() {
        House.sentence("size: how many places the row has (or had; nothing is touched for it)");
        for (int n : new int[] {0, 1, 63, 64}) {
            printed("print size(row'H(read,1));", in(n), DONE, n);
            printed("region 'a{var f:?'a int=row'a(read,1)+1000;close 'a;print size(f);print size(f+1);}", in(n), DONE, n, n);
        }
        printed("region 'a{var f:?'a ?'a int=row'a(3,row'a(5,1));print size(f);print size(f[0]);close 'a;print size(f);}", in(), DONE, 3, 5, 3);
    }

    private static void alike() {
        House.sentence("==: 1 if alike (one place, both null), else 0");
        printed("var c:@'H int=cell'H(1);var d:@'H int=cell'H(1);print c==c;print c==d;print c==null;print null==null;print null==d;", in(), DONE, 1, 0, 0, 1, 0);
        printed("var f:?'H int=row'H(3,1);print &f[0]==&f[0];print &f[0]==&f[1];print &(f+1)[0]==&f[1];", in(), DONE, 1, 0, 1);
        printed("var l:@'H L'H=new'H L'H{1,null};var m:*'H L'H=l;print l==m;print &l.v==&m.v;print l.n==null;l.n=m;print l.n==l;print l.n.n==m;",
                in(), DONE, 1, 1, 1, 1, 1);
        printed("print read==read;print read==read;", in(MIN, MIN, 1, -1), DONE, 1, 0);
        printed("region 'a{var x:@'a int=cell'a(1);var y:@'a int=cell'H(1);print x==y;y=x;print x==y;}", in(), DONE, 0, 1);
    }

    private static void numbersWrap() {
        House.sentence("Numbers wrap");
        int[] all = {MIN, MIN + 1, -2, -1, 0, 1, 2, 46341, 65536, MAX - 1, MAX};
        for (int a : all) {
            for (int b : all) {
                printed("var a:int=read;var b:int=read;print a+b;print a-b;print a*b;print a<b;print a==b;", in(a, b), DONE,
                        a + b, a - b, a * b, a < b ? 1 : 0, a == b ? 1 : 0);
            }
        }
        printed("print read+1;print read-1;", in(MAX, MIN), DONE, MIN, MAX);
    }

    private static void cutOff() {
        House.sentence("/ and % cut off");
        int[] all = {MIN, MIN + 1, -7, -2, -1, 1, 2, 7, MAX};
        for (int a : all) {
            for (int b : all) {
                printed("var a:int=read;var b:int=read;print a/b;print a%b;", in(a, b), DONE, a / b, a % b);
            }
        }
        printed("print read/read;print read%read;", in(MIN, -1, MIN, -1), DONE, MIN, 0);
        printed("print read/read;print read%read;print read/read;print read%read;", in(-7, 2, -7, 2, 7, -2, 7, -2), DONE, -3, -1, -3, 1);
    }

    private static void assignments() {
        House.sentence("(but TAG: a union's field is that one then)");
        printed("var u:@'H U'H=new'H U'H.i(1);u.f=row'H(2,3);print u is f;print u.f[1];u.p=null;print u is p;u.i=4;print u.i;", in(), DONE, 1, 3, 1, 4);
        // the EXPR is done first, with the field as it was
        printed("var u:@'H U'H=new'H U'H.i(4);u.f=row'H(u.i,3);print size(u.f);try{u.i=u.i;}catch{print caught;}print u is f;", in(), DONE, 4, 3, 1);
        // of the PLACE's parts TAG is asked
        printed("var u:@'H U'H=new'H U'H.i(4);try{u.f[0]=1;}catch{print caught;}try{u.p^=1;}catch{print caught;}print u.i;", in(), DONE, 3, 3, 4);
        printed("var x:?'H int=row'H(1,1);var y:?'H int=x;x=row'H(2,2);print size(y);print size(x);y=x+1;x[1]=9;print y[0];", in(), DONE, 1, 2, 9);
    }

    private static void questions() {
        House.sentence("if, while: an int but 0, a pointer but null");
        for (int v : new int[] {MIN, -1, 0, 1, 2, MAX}) {
            printed("if read{print 1;}else{print 2;}", in(v), DONE, v != 0 ? 1 : 2);
            printed("while read{print 1;}print 2;", v == 0 ? in(0) : in(v, 0), DONE, v != 0 ? in(1, 2) : in(2));
        }
        printed("var p:*'H int=null;if p{print 1;}else{print 2;}p=cell'H(0);if p{print 3;}else{print 4;}", in(), DONE, 2, 3);
        printed("var p:*'H int=cell'H(0);while p{print 1;p=null;}print 2;if cell'H(0){print 3;}", in(), DONE, 1, 2, 3);
    }

    private static void reads() {
        House.sentence("read: the first INPUT, which goes; 0 without one.");
        printed("print read;print read;print read;print read;", in(5, -6, 7), DONE, 5, -6, 7, 0);
        printed("print read;", in(), DONE, 0);
        PointerHouse x = House.started(House.main("read;print read;print 1;"), 3, 4, 5);
        House.due("waiting", 3, x.world(6));
        x.run(1);
        House.due("waiting behind one read", 2, x.world(6));
        x.run(1);
        House.due("waiting behind two", 1, x.world(6));
        House.due("printed(0)", 4, x.printed(0));
    }

    private static void stepsCounted() {
        House.sentence("A STEP is counted as it begins, a while also each time it asks again.");
        String[] texts = {"", "1;", "var x:int;", "if 1{}", "if 1{1;}", "if 0{1;}", "if 0{}else{1;2;}", "while 0{1;}", "var i:int=3;while i{i=i-1;}",
            "region 'a{}", "region 'a{close 'a;}", "try{}catch{1;}", "try{throw 1;}catch{2;}", "return;1;", "main2();", "print three();"};
        int[] due = {0, 1, 1, 1, 2, 1, 3, 1, 1 + 4 + 3, 1, 2, 1, 3, 1, 1, 2};
        for (int i = 0; i < texts.length; i++) {
            PointerHouse x = House.ran("fun main2(){}fun three():int{return 3;}" + House.main(texts[i]), 4, 4);
            House.due("state(0) of " + texts[i], DONE, x.state(0));
            House.due("STEPS of " + texts[i], due[i], x.world(0));
        }
        // one that fails, finds no ROOM or is too DEEP is counted, too
        House.due("STEPS with an ERROR", 2, House.ran(House.main("1;1/0;2;"), 4, 4).world(0));
        House.due("STEPS without ROOM", 2, House.ran(House.main("row'H(4,1);cell'H(1);2;"), 1, 4).world(0));
        House.due("STEPS too DEEP", 40, House.ran(House.main("main();"), 1, 4).world(0));
    }

    private static void goesOn() {
        House.sentence("Behind start(), and behind a STEP, it goes on .. up to where the next one would begin, or main is DONE.");
        PointerHouse x = House.started(House.main(""));
        House.due("an empty main is DONE behind start", DONE, x.state(0));
        House.due("steps", 0, x.world(0));
        x = House.started(House.main("print 1;"));
        House.due("main goes on ahead of its STEP", GOES_ON, x.state(0));
        x.run(1);
        House.due("and is DONE behind it", DONE, x.state(0));
        String text = "fun f():int{if 1{1;}return 2;}" + House.main("region 'a{print f()+f();}");
        x = House.started(text);
        int[] next = {text.indexOf("region"), text.indexOf("print"), text.indexOf("if"), text.indexOf("1;}"), text.indexOf("return"), text.indexOf("if"),
            text.indexOf("1;}"), text.indexOf("return")};
        int[] calls = {1, 1, 2, 2, 2, 2, 2, 2};
        for (int i = 0; i < next.length; i++) {
            House.due("state(2) behind " + i, next[i], x.state(2));
            House.due("calls behind " + i, calls[i], x.world(3));
            House.due("printed behind " + i, 0, x.world(4));
            x.run(1);
        }
        House.due("DONE behind the last", DONE, x.state(0));
        House.due("printed(0)", 4, x.printed(0));
        // an ERROR behind a call is one of the STEP that called
        x = House.started("fun f():int{return 0;}" + House.main("try{print 1/f();}catch{print 2;}"));
        x.run(3);
        House.due("printed", 0, x.world(4));
        House.due("ERRORS", 1, x.world(7));
        House.due("it goes on in the second BLOCK", GOES_ON, x.state(0));
    }
}
