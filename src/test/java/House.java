/** What the tests share: feeding a text, building it, and telling which answers are not the ones due. */
final class House {
    private static int wrong = 0;
    private static int asked = 0;
    private static int askedBefore = 0;
    private static String sentence = "";

    private House() {
    }

    static void due(String what, long want, long got) {
        asked++;
        if (got != want) {
            wrong++;
            System.out.println(what + " answered " + got + ", due is " + want + (sentence.isEmpty() ? "" : " by: " + sentence));
        }
    }

    /** What follows tests this sentence of the document; the one before must have been tested by something. */
    static void sentence(String words) {
        if (!sentence.isEmpty() && asked == askedBefore) {
            wrong++;
            System.out.println("nothing was asked for: " + sentence);
        }
        sentence = words;
        askedBefore = asked;
    }

    static void due(String what, boolean want, boolean got) {
        due(what, want ? 1 : 0, got ? 1 : 0);
    }

    /** Ends the test; the exit code is 1 if an answer was wrong. */
    static void finish() {
        sentence("");
        System.out.println(asked + " answers, " + wrong + " wrong");
        if (wrong != 0 || asked == 0) {
            System.exit(1);
        }
    }

    private static int four(String text, int at) {
        int bytes = 0;
        for (int i = at; i < at + 4; i++) {
            bytes = bytes << 8 | (i < text.length() ? text.charAt(i) & 255 : ' ');
        }
        return bytes;
    }

    static void feed(PointerHouse x, String text) {
        for (int i = 0; i < text.length(); i += 20) {
            int has = x.feed(four(text, i), four(text, i + 4), four(text, i + 8), four(text, i + 12), four(text, i + 16));
            if (has != i + 20) {
                due("feed of " + text, i + 20, has);
            }
        }
        if (x.end(text.length()) != text.length()) {
            due("end of " + text, text.length(), -2);
        }
    }

    static int build(PointerHouse x, String text) {
        feed(x, text);
        return x.build();
    }

    /** The text with a # at the place of the FAULT (without one: at its end) has just that FAULT. */
    static void fault(int kind, String marked) {
        int mark = marked.indexOf('#');
        int place = mark < 0 ? marked.length() : mark;
        String text = marked.replace("#", "");
        PointerHouse x = new PointerHouse();
        due("build of " + text, -1, build(x, text));
        due("fault(0) of " + text, kind, x.fault(0));
        due("fault(1) of " + text, place, x.fault(1));
        due("program(0) of " + text, -1, x.program(0));
        due("start of " + text, false, x.start(4, 4));
    }

    /** The text has no FAULT 1; it may have another one. */
    static void stands(String text) {
        PointerHouse x = new PointerHouse();
        build(x, text);
        due("whether FAULT 1 (at " + x.fault(1) + ") is there in " + text, false, x.fault(0) == 1);
    }

    /** The text has no FAULT; the program that it becomes. */
    static PointerHouse sound(String text) {
        PointerHouse x = new PointerHouse();
        int items = build(x, text);
        if (items < 1 || x.fault(0) != 0 || x.fault(1) != -1) {
            due("fault " + x.fault(0) + " at " + x.fault(1) + " of " + text + "; build", 1, items);
        } else {
            due("build of " + text, items, items);
        }
        return x;
    }

    /** As sound, started in 64 pages of 64 words. */
    static PointerHouse started(String text, int... inputs) {
        return startedIn(text, 64, 64, inputs);
    }

    static PointerHouse startedIn(String text, int pages, int words, int... inputs) {
        PointerHouse x = sound(text);
        due("start of " + text, true, x.start(pages, words));
        for (int v : inputs) {
            x.input(v);
        }
        return x;
    }

    /** A fun main with these STEPS. */
    static String main(String steps) {
        return "fun main(){" + steps + "}";
    }

    static String times(int n, String text) {
        return text.repeat(n);
    }

    /** Starts the text in pages of words, with inputs, and runs it to its end. */
    static PointerHouse ran(String text, int pages, int words, int... inputs) {
        PointerHouse x = startedIn(text, pages, words, inputs);
        for (int i = 0; i < 400 && x.state(0) == 1; i++) {
            x.run(500);
        }
        return x;
    }

    /** What is printed, and the STATE in which the run of the text ends (64 pages of 64 words). */
    static PointerHouse prints(String text, int state, int... numbers) {
        return printsIn(text, 64, 64, state, numbers);
    }

    static PointerHouse printsIn(String text, int pages, int words, int state, int... numbers) {
        PointerHouse x = ran(text, pages, words);
        due("state(0) of " + text, state, x.state(0));
        due("world(4) of " + text, numbers.length, x.world(4));
        for (int k = 0; k < numbers.length; k++) {
            due("printed(" + k + ") of " + text, numbers[k], x.printed(k));
        }
        due("world(8) of " + text, 0, x.world(8));
        return x;
    }
}
