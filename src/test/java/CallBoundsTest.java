/** What start, input, run, state, world, region and printed refuse and answer then, sentence by sentence (promises 7 to 13). */
public final class CallBoundsTest {
    private static final int MIN = Integer.MIN_VALUE;
    private static final int MAX = Integer.MAX_VALUE;
    private static final String LOOP = "fun main(){while 1{print read;}}";

    public static void main(String[] args) {
        startRefuses();
        startAccepts();
        startAnew();
        inputCounts();
        inputRefuses();
        runRefuses();
        runCounts();
        stateAnswers();
        stateNumber();
        statePlace();
        worldAnswers();
        worldWhenNothingRuns();
        worldCounts();
        regionAnswers();
        printedAnswers();
        House.finish();
    }

    /** Started, and ended in each STATE from 0 to 5. */
    private static PointerHouse inState(int state) {
        String[] texts = {LOOP, LOOP, "fun main(){print 7;}", "fun main(){print 7;throw 6;}", "fun main(){print 7;row'H(4,1);cell'H(1);}",
            "fun main(){print 7;main();}"};
        PointerHouse x = House.sound(texts[state]);
        if (state > 0) {
            x.start(1, 4);
            x.input(7);
            if (state > 1) {
                x.run(500);
            }
        }
        House.due("STATE", state, x.state(0));
        return x;
    }

    private static void startRefuses() {
        House.sentence("start: .. false, and nothing changes, without a program, or for other numbers.");
        int[][] wrong = {{0, 4}, {65, 4}, {1, 3}, {1, 65}, {-1, 8}, {8, -1}, {0, 0}, {65, 65}, {64, 65}, {65, 64}, {0, 64}, {64, 0}, {MAX, 8}, {8, MAX},
            {MIN, 8}, {8, MIN}, {257, 8}, {8, 260}};
        for (int[] w : wrong) {
            for (int state = 0; state <= 5; state++) {
                PointerHouse x = inState(state);
                int steps = x.world(0);
                House.due("start(" + w[0] + ", " + w[1] + ")", false, x.start(w[0], w[1]));
                House.due("STATE behind it", state, x.state(0));
                House.due("steps behind it", steps, x.world(0));
                House.due("printed behind it", state < 2 ? 0 : 7, x.printed(0));
                House.due("inputs behind it", state == 0 ? 0 : 1, x.world(6));
            }
        }
        PointerHouse x = new PointerHouse();
        House.due("start without a program", false, x.start(8, 8));
        House.feed(x, LOOP);
        House.due("start of a text that is not built", false, x.start(8, 8));
        x.build();
        House.due("start of a program", true, x.start(8, 8));
        House.build(x, "fun");
        House.due("start behind a FAULT", false, x.start(8, 8));
        House.due("STATE behind it", 0, x.state(0));
    }

    private static void startAccepts() {
        House.sentence("start: The program starts .. in so many PAGES (1 .. 64) of so many WORDS (4 .. 64): true");
        for (int pages : new int[] {1, 2, 63, 64}) {
            for (int words : new int[] {4, 5, 63, 64}) {
                String text = "fun main(){var n:int=read;var w:int=read;while n{row'H(w,1);n=n-1;}print 1;cell'H(1);print 2;}";
                PointerHouse x = House.ran(text, pages, words, pages, words);
                House.due("STATE in " + pages + " of " + words, 4, x.state(0));
                House.due("printed", 1, x.world(4));
                House.due("pages", pages, x.world(1));
                House.due("WORDS", pages * words, x.region(0, 1));
                x = House.ran(text, pages, words, pages, words + 1);
                House.due("STATE with one WORD too many", 3, x.state(0));
            }
        }
    }

    private static void startAnew() {
        House.sentence("start: (what ran is over), with no INPUT");
        for (int state = 1; state <= 5; state++) {
            PointerHouse x = inState(state);
            House.due("start in STATE " + state, true, x.start(2, 8));
            House.due("STATE", 1, x.state(0));
            House.due("state(1)", 0, x.state(1));
            int[] due = {0, 0, 1, 1, 0, 0, 0, 0, 0};
            for (int what = 0; what < due.length; what++) {
                House.due("world(" + what + ")", due[what], x.world(what));
            }
            for (int what = 0; what <= 2; what++) {
                House.due("region(0, " + what + ")", 0, x.region(0, what));
                House.due("region(1, " + what + ")", -1, x.region(1, what));
            }
            House.due("printed(0)", 0, x.printed(0));
        }
        // regions, tries and calls of what ran are over, too
        String text = "fun f(){try{region 'a{row'a(4,1);throw read;}}catch{throw 8;}}fun main(){region 'b{f();}}";
        PointerHouse x = House.started(text);
        x.run(4);
        House.due("regions", 3, x.world(2));
        x.start(1, 4);
        House.due("regions behind start", 1, x.world(2));
        House.due("the place behind start", text.indexOf("region 'b"), x.state(2));
        x.run(500);
        House.due("STATE", 3, x.state(0));
        House.due("ERRORS", 2, x.world(7));
    }

    private static void inputCounts() {
        House.sentence("input: An INPUT comes behind the others: how many wait; NONE if .. 100 wait.");
        PointerHouse x = House.started(LOOP);
        for (int i = 1; i <= 100; i++) {
            House.due("input " + i, i, x.input(1000 + i));
            House.due("waiting", i, x.world(6));
        }
        for (int i = 0; i < 3; i++) {
            House.due("input beyond 100", -1, x.input(1));
            House.due("waiting", 100, x.world(6));
        }
        x.run(2);
        House.due("waiting behind a read", 99, x.world(6));
        House.due("one more", 100, x.input(MIN));
        House.due("but not two", -1, x.input(2));
        for (int i = 0; i < 100; i++) {
            x.run(2);
        }
        for (int i = 0; i < 100; i++) {
            House.due("printed(" + i + ")", 1001 + i, x.printed(i));
        }
        House.due("the last one", MIN, x.printed(100));
        House.due("waiting", 0, x.world(6));
        House.due("input behind them", 1, x.input(0));
    }

    private static void inputRefuses() {
        House.sentence("input: NONE if nothing goes on");
        for (int state = 0; state <= 5; state++) {
            PointerHouse x = inState(state);
            int waiting = x.world(6);
            House.due("input in STATE " + state, state == 1 ? waiting + 1 : -1, x.input(5));
            House.due("waiting in STATE " + state, state == 1 ? waiting + 1 : waiting, x.world(6));
        }
        House.due("input of a new object", -1, new PointerHouse().input(1));
    }

    private static void runRefuses() {
        House.sentence("run: NONE for another number (than 1 .. 500), or if nothing goes on.");
        for (int n : new int[] {0, -1, 501, 502, MIN, MAX, -500}) {
            PointerHouse x = House.started(LOOP);
            House.due("run(" + n + ")", -1, x.run(n));
            House.due("steps behind it", 0, x.world(0));
            House.due("STATE behind it", 1, x.state(0));
        }
        for (int n : new int[] {1, 2, 499, 500}) {
            PointerHouse x = House.started(LOOP);
            House.due("run(" + n + ")", n, x.run(n));
            House.due("steps behind it", n, x.world(0));
        }
        for (int state : new int[] {0, 2, 3, 4, 5}) {
            PointerHouse x = inState(state);
            int steps = x.world(0);
            House.due("run(1) in STATE " + state, -1, x.run(1));
            House.due("run(500) in STATE " + state, -1, x.run(500));
            House.due("steps behind it", steps, x.world(0));
        }
    }

    private static void runCounts() {
        House.sentence("run: It does so many STEPS, as long as it goes on: how many");
        String steps = "fun main(){" + House.times(10, "print 1;") + "~}";
        String[] ends = {"", "throw 1;", "row'H(4,1);cell'H(1);", "main();"};
        int[] due = {10, 11, 12, 440};
        int[] state = {2, 3, 4, 5};
        for (int i = 0; i < ends.length; i++) {
            for (int n : new int[] {1, 3, 9, 10, 11, 12, 439, 440, 441, 500}) {
                PointerHouse x = House.startedIn(steps.replace("~", ends[i]), 1, 4);
                int done = 0;
                // an object is used for at most 512 calls
                if (due[i] > 100 * n) {
                    done = x.run(400);
                }
                for (int k = 0; k < 100 && x.state(0) == 1; k++) {
                    int want = Math.min(n, due[i] - done);
                    House.due("run(" + n + ")", want, x.run(n));
                    done += want;
                    House.due("steps", done, x.world(0));
                }
                House.due("STATE", state[i], x.state(0));
                House.due("steps in all", due[i], x.world(0));
            }
        }
    }

    private static void stateAnswers() {
        House.sentence("state: STATE (what 0) .. NONE for another what.");
        for (int state = 0; state <= 5; state++) {
            PointerHouse x = inState(state);
            House.due("state(0)", state, x.state(0));
            for (int what : new int[] {-1, 3, 4, MIN, MAX}) {
                House.due("state(" + what + ") in STATE " + state, -1, x.state(what));
            }
        }
    }

    private static void stateNumber() {
        House.sentence("state: the ERROR's number (1; 0 but in STATE 3)");
        for (int state = 0; state <= 5; state++) {
            House.due("state(1) in STATE " + state, state == 3 ? 6 : 0, inState(state).state(1));
        }
        PointerHouse x = House.started("fun main(){try{throw 9;}catch{1;}throw 0;}");
        x.run(2);
        House.due("state(1) behind one that was caught", 0, x.state(1));
        x.run(2);
        House.due("STATE behind throw 0", 3, x.state(0));
        House.due("its number", 0, x.state(1));
        House.due("state(1) behind start", 0, x.start(1, 4) ? x.state(1) : -2);
        x = House.ran("fun main(){throw 6;}", 1, 4);
        x.start(1, 4);
        House.due("state(1) behind start and an ERROR before", 0, x.state(1));
        x.build();
        House.due("state(1) behind build", 0, x.state(1));
    }

    private static void statePlace() {
        House.sentence("state: the place of the STEP that is next, or, in the STATES 3 to 5, that the innermost fun at work was in (2; NONE in the STATES 0 and 2)");
        int[] due = {-1, 11, -1, 19, 30, 19};
        for (int state = 0; state <= 5; state++) {
            House.due("state(2) in STATE " + state, due[state], inState(state).state(2));
        }
        House.due("state(2) of a new object", -1, new PointerHouse().state(2));
        String text = "fun f(n:int){if n==0{1/0;}f(n-1);}fun main(){f(2);}";
        PointerHouse x = House.ran(text, 1, 4);
        House.due("the place in the innermost fun", text.indexOf("1/0"), x.state(2));
        // behind a call that is over, the STEP that called is the one at work
        text = "fun f():int{return 0;}fun main(){1;print 5/f();}";
        x = House.ran(text, 1, 4);
        House.due("the place of the STEP that called", text.indexOf("print"), x.state(2));
        text = "fun f():int{return 5;}fun main(){1;row'H(f(),1);}";
        x = House.ran(text, 1, 4);
        House.due("the place of the STEP without SIZE", text.indexOf("row"), x.state(2));
        text = "fun f():int{return 4;}fun main(){row'H(4,1);row'H(f(),1);}";
        x = House.ran(text, 1, 4);
        House.due("the place of the STEP without ROOM", text.indexOf("row'H(f"), x.state(2));
        // a while that asks again, a STEP behind the end of BLOCKS
        text = "fun main(){while read{if 1{2;}}3;}";
        x = House.started(text, 1, 1, 0);
        int[] places = {text.indexOf("while"), text.indexOf("if"), text.indexOf("2;"), text.indexOf("while"), text.indexOf("if"), text.indexOf("2;"),
            text.indexOf("while"), text.indexOf("3;")};
        for (int place : places) {
            House.due("next", place, x.state(2));
            x.run(1);
        }
        House.due("behind all", -1, x.state(2));
    }

    private static void worldAnswers() {
        House.sentence("world: .. NONE for another what.");
        for (int state = 0; state <= 5; state++) {
            PointerHouse x = inState(state);
            for (int what : new int[] {-1, 9, 10, MIN, MAX}) {
                House.due("world(" + what + ") in STATE " + state, -1, x.world(what));
            }
            House.due("world(8) in STATE " + state, 0, x.world(8));
        }
    }

    private static void worldWhenNothingRuns() {
        House.sentence("world: All 0 when nothing runs.");
        for (int state = 0; state <= 5; state++) {
            PointerHouse x = inState(state);
            x.build();
            for (int what = 0; what <= 8; what++) {
                House.due("world(" + what + ") behind build in STATE " + state, 0, x.world(what));
            }
        }
        PointerHouse x = new PointerHouse();
        for (int what = 0; what <= 8; what++) {
            House.due("world(" + what + ") of a new object", 0, x.world(what));
        }
    }

    private static void worldCounts() {
        House.sentence("world: STEPS done, pages in use, regions with 'H, calls in one another, numbers printed, objects made, INPUTS wait, ERRORS came (caught ones and throw, too)");
        String text = "fun f(){region 'a{cell'a(1);try{1/0;}catch{print 1;}try{throw 2;}catch{print 2;}row'H(0,1);}}fun main(){f();f();print 3;throw 4;}";
        PointerHouse x = House.startedIn(text, 4, 4, 5, 6);
        int[][] due = {
            {0, 0, 1, 1, 0, 0, 2, 0}, {1, 0, 1, 2, 0, 0, 2, 0}, {2, 0, 2, 2, 0, 0, 2, 0}, {3, 1, 2, 2, 0, 1, 2, 0}, {4, 1, 2, 2, 0, 1, 2, 0},
            {5, 1, 2, 2, 0, 1, 2, 1}, {6, 1, 2, 2, 1, 1, 2, 1}, {7, 1, 2, 2, 1, 1, 2, 1}, {8, 1, 2, 2, 1, 1, 2, 2}, {9, 1, 2, 2, 2, 1, 2, 2},
            {10, 0, 1, 1, 2, 2, 2, 2}, {11, 0, 1, 2, 2, 2, 2, 2}};
        for (int i = 0; i < due.length; i++) {
            for (int what = 0; what < 8; what++) {
                House.due("world(" + what + ") behind " + i + " STEPS", due[i][what], x.world(what));
            }
            House.due("world(8)", 0, x.world(8));
            x.run(1);
        }
        x.run(500);
        int[] last = {22, 0, 1, 1, 5, 4, 2, 5};
        for (int what = 0; what < 8; what++) {
            House.due("world(" + what + ") in STATE 3", last[what], x.world(what));
        }
        House.due("calls when DONE", 0, inState(2).world(3));
        // objects that could not be made don't count
        x = House.ran("fun main(){try{row'H(5,1);}catch{}try{row'H(0-1,1);}catch{}row'H(4,1);cell'H(1);}", 1, 4);
        House.due("objects made", 1, x.world(5));
        House.due("ERRORS", 2, x.world(7));
    }

    private static void regionAnswers() {
        House.sentence("region: Of the i-th region that is there (0 'H, then as they began): pages, WORDS used, objects in it. NONE if there is none such.");
        String text = "fun f'a(){region 'x{row'x(3,1);row'x(3,1);row'H(1,1);row'a(2,1);9;}}fun main(){region 'u{region 'v{cell'v(1);f'u();8;}}}";
        PointerHouse x = House.startedIn(text, 9, 4);
        House.due("region(1, 0) ahead of all", -1, x.region(1, 0));
        x.run(9);
        int[][] due = {{1, 1, 1}, {1, 2, 1}, {1, 1, 1}, {2, 6, 2}};
        for (int i = -2; i <= 6; i++) {
            for (int what = -2; what <= 4; what++) {
                boolean there = i >= 0 && i < 4 && what >= 0 && what < 3;
                House.due("region(" + i + ", " + what + ")", there ? due[i][what] : -1, x.region(i, what));
            }
        }
        for (int i : new int[] {MIN, MAX}) {
            House.due("region(" + i + ", 0)", -1, x.region(i, 0));
            House.due("region(0, " + i + ")", -1, x.region(0, i));
        }
        x.run(1);
        House.due("region(3, 0) behind the call", -1, x.region(3, 0));
        House.due("region(2, 2) behind the call", 1, x.region(2, 2));
        x.run(1);
        House.due("STATE", 2, x.state(0));
        House.due("region(0, 2) when DONE", 1, x.region(0, 2));
        House.due("region(1, 0) when DONE", -1, x.region(1, 0));
        // one that was closed is not there; the next takes its number
        x = House.startedIn("fun main(){region 'a{cell'a(1);close 'a;region 'b{row'b(0,1);1;}}}", 9, 4);
        x.run(3);
        House.due("region(1, 2) behind close", -1, x.region(1, 2));
        x.run(2);
        House.due("region(1, 0) of the next", 0, x.region(1, 0));
        House.due("region(1, 2) of the next", 1, x.region(1, 2));
        House.due("region(0, 0) of a new object", -1, new PointerHouse().region(0, 0));
        x.build();
        House.due("region(0, 0) behind build", -1, x.region(0, 0));
    }

    private static void printedAnswers() {
        House.sentence("printed: The k-th number printed, from 0 (the first 300 are kept); 0 if there is none such.");
        PointerHouse x = House.started("fun main(){var i:int=0;while i<302{i=i+1;print i*3;}}");
        House.due("printed(0) ahead of all", 0, x.printed(0));
        // the while, i=i+1, print; ahead of the first one the var
        int numbers = 0;
        for (int next : new int[] {1, 2, 3, 150, 298, 299, 300, 301, 302}) {
            x.run(numbers == 0 ? 4 : 3);
            for (numbers++; numbers < next; numbers++) {
                x.run(3);
            }
            House.due("numbers", numbers, x.world(4));
            House.due("the latest", numbers <= 300 ? numbers * 3 : 0, x.printed(numbers - 1));
            House.due("one beyond", 0, x.printed(numbers));
        }
        House.due("printed(299)", 900, x.printed(299));
        House.due("printed(300)", 0, x.printed(300));
        House.due("printed(301)", 0, x.printed(301));
        House.due("printed(0)", 3, x.printed(0));
        for (int k : new int[] {-1, -2, 302, 303, MIN, MAX}) {
            House.due("printed(" + k + ")", 0, x.printed(k));
        }
        x.run(500);
        House.due("STATE", 2, x.state(0));
        House.due("printed(299) when DONE", 900, x.printed(299));
        x.start(1, 4);
        House.due("printed(299) behind start", 0, x.printed(299));
        x.run(4);
        House.due("printed(0)", 3, x.printed(0));
        House.due("printed(1)", 0, x.printed(1));
        x.build();
        House.due("printed(0) behind build", 0, x.printed(0));
    }
}
