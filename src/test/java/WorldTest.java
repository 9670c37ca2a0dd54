/** Promises 11 to 13: world, region, printed. */
public final class WorldTest {
    public static void main(String[] args) {
        regionsAndPages();
        zeroWords();
        endsOfRegions();
        counts();
        stays();
        manyPrinted();
        wrongAsked();
        House.finish();
    }

    private static void region(PointerHouse x, int i, int pages, int words, int objects) {
        House.due("region(" + i + ", 0)", pages, x.region(i, 0));
        House.due("region(" + i + ", 1)", words, x.region(i, 1));
        House.due("region(" + i + ", 2)", objects, x.region(i, 2));
    }

    private static PointerHouse started(String steps, int pages, int words, int run) {
        PointerHouse x = House.sound("struct T{a:int;b:int;c:int;};" + House.main(steps));
        House.due("start", true, x.start(pages, words));
        House.due("run", run, x.run(run));
        return x;
    }

    private static void regionsAndPages() {
        // three words twice don't fill a page of eight, the third takes another; so does a later small one lie there
        PointerHouse x = started("new'H T{1,2,3};new'H T{1,2,3};new'H T{1,2,3};cell'H(1);region 'a{cell'a(cell'a(1));cell'H(1);}",
                9, 8, 3);
        region(x, 0, 2, 9, 3);
        x.run(1);
        region(x, 0, 2, 10, 4);
        House.due("region(1, 0)", -1, x.region(1, 0));
        x.run(1);
        region(x, 1, 0, 0, 0);
        House.due("regions", 2, x.world(2));
        House.due("pages", 2, x.world(1));
        x.run(1);
        region(x, 1, 1, 2, 2);
        House.due("pages", 3, x.world(1));
        House.due("objects", 6, x.world(5));
        x.run(1);
        House.due("state(0)", 2, x.state(0));
        region(x, 0, 2, 11, 5);
        House.due("regions when DONE", 1, x.world(2));
        House.due("pages when DONE", 2, x.world(1));
        House.due("objects made, gone or not", 7, x.world(5));
        House.due("calls when DONE", 0, x.world(3));
    }

    private static void zeroWords() {
        PointerHouse x = started("row'H(0,1);row'H(1,row'H(0,1));", 1, 4, 1);
        region(x, 0, 0, 0, 1);
        House.due("pages", 0, x.world(1));
        House.due("objects", 1, x.world(5));
        x.run(1);
        region(x, 0, 1, 3, 3);
    }

    private static void endsOfRegions() {
        String f = "fun f(n:int){region 'a{region 'b{cell'b(1);if n==1{return;}if n==2{throw 5;}close 'b;close 'a;print 1;}}}";
        PointerHouse x = House.sound(f + House.main("f(0);f(1);try{f(2);}catch{print caught;}f(3);"));
        x.start(2, 4);
        x.run(1);
        House.due("regions in the call", 1, x.world(2));
        House.due("calls in one another", 2, x.world(3));
        x.run(2);
        House.due("regions in both BLOCKS", 3, x.world(2));
        x.run(1);
        House.due("pages", 1, x.world(1));
        x.run(2);
        House.due("regions behind two ifs", 3, x.world(2));
        x.run(1);
        House.due("regions behind close", 2, x.world(2));
        House.due("pages behind close", 0, x.world(1));
        x.run(1);
        House.due("regions behind both", 1, x.world(2));
        x.run(1);
        House.due("calls behind the end of f", 1, x.world(3));
        x.run(6);
        House.due("regions behind return", 1, x.world(2));
        House.due("calls behind return", 1, x.world(3));
        x.run(8);
        House.due("regions behind the ERROR", 1, x.world(2));
        House.due("calls behind the ERROR", 1, x.world(3));
        House.due("pages behind the ERROR", 0, x.world(1));
        House.due("ERRORS came", 1, x.world(7));
        x.run(500);
        House.due("state(0)", 2, x.state(0));
        House.due("printed", 3, x.world(4));
        House.due("printed(1)", 5, x.printed(1));
    }

    private static void counts() {
        PointerHouse x = House.ran(House.main("var i:int=0;while i<4{try{print 1/(i%2);}catch{}i=i+1;}throw 3;"), 1, 4);
        House.due("steps", 1 + 5 + 4 + 4 + 4 + 1, x.world(0));
        House.due("ERRORS with throw", 3, x.world(7));
        House.due("numbers", 2, x.world(4));
        House.due("state(0)", 3, x.state(0));
        House.due("state(1)", 3, x.state(1));
        House.due("places touched wrongly", 0, x.world(8));
    }

    private static void stays() {
        String f = "fun f(n:int){region 'a{cell'a(n);if n==3{cell'a(1/0);}f(n+1);}}";
        PointerHouse x = House.ran(f + House.main("f(1);"), 9, 4, 1, 2, 3);
        House.due("state(0)", 3, x.state(0));
        House.due("calls stay", 4, x.world(3));
        House.due("regions stay", 4, x.world(2));
        House.due("pages stay", 3, x.world(1));
        House.due("inputs stay", 3, x.world(6));
        region(x, 3, 1, 1, 1);
        House.due("region(4, 0)", -1, x.region(4, 0));
        x = House.ran(f + House.main("f(4);"), 9, 4);
        House.due("state(0)", 4, x.state(0));
        House.due("calls in STATE 4", 11, x.world(3));
        House.due("regions in STATE 4", 11, x.world(2));
        House.due("pages in STATE 4", 9, x.world(1));
        region(x, 10, 0, 0, 0);
        House.build(x, "fun main(){}");
        House.due("region(0, 0) behind build", -1, x.region(0, 0));
        for (int what = 0; what <= 8; what++) {
            House.due("world(" + what + ") behind build", 0, x.world(what));
        }
    }

    private static void manyPrinted() {
        PointerHouse x = House.ran(House.main("var i:int=0;while i<310{i=i+1;print i;}"), 1, 4);
        House.due("numbers", 310, x.world(4));
        House.due("printed(0)", 1, x.printed(0));
        House.due("printed(299)", 300, x.printed(299));
        House.due("printed(300)", 0, x.printed(300));
        House.due("printed(-1)", 0, x.printed(-1));
        House.due("printed beyond all", 0, x.printed(Integer.MAX_VALUE));
        x.start(1, 4);
        House.due("printed(0) behind start", 0, x.printed(0));
        x.run(3);
        House.due("printed(0)", 0, x.printed(0));
        x.run(1);
        House.due("printed(0)", 1, x.printed(0));
        House.due("printed(1)", 0, x.printed(1));
        x.build();
        House.due("printed(0) behind build", 0, x.printed(0));
    }

    private static void wrongAsked() {
        PointerHouse x = House.ran(House.main("cell'H(1);"), 1, 4);
        House.due("world(-1)", -1, x.world(-1));
        House.due("world(9)", -1, x.world(9));
        House.due("world beyond all", -1, x.world(Integer.MIN_VALUE));
        House.due("region(0, -1)", -1, x.region(0, -1));
        House.due("region(0, 3)", -1, x.region(0, 3));
        House.due("region(-1, 0)", -1, x.region(-1, 0));
        House.due("region(1, 0)", -1, x.region(1, 0));
        House.due("region beyond all", -1, x.region(Integer.MAX_VALUE, Integer.MAX_VALUE));
    }
}
