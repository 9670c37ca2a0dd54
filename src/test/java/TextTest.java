/** Promises 1 to 3: a new object, feed, end. */
public final class TextTest {
    public static void main(String[] args) {
        newObject();
        feeding();
        bytesInOrder();
        ending();
        House.finish();
    }

    private static void newObject() {
        PointerHouse x = new PointerHouse();
        House.due("NONE", -1, PointerHouse.NONE);
        for (int what = -1; what <= 3; what++) {
            House.due("fault(" + what + ") of a new object", -1, x.fault(what));
        }
        for (int what = -1; what <= 7; what++) {
            House.due("program(" + what + ") of a new object", -1, x.program(what));
        }
        House.due("start of a new object", false, x.start(4, 4));
        House.due("input of a new object", -1, x.input(1));
        House.due("run of a new object", -1, x.run(1));
        House.due("state(0) of a new object", 0, x.state(0));
        House.due("state(1) of a new object", 0, x.state(1));
        House.due("state(2) of a new object", -1, x.state(2));
        House.due("state(3) of a new object", -1, x.state(3));
        for (int what = 0; what <= 8; what++) {
            House.due("world(" + what + ") of a new object", 0, x.world(what));
        }
        House.due("world(9) of a new object", -1, x.world(9));
        House.due("world(-1) of a new object", -1, x.world(-1));
        House.due("region(0, 0) of a new object", -1, x.region(0, 0));
        House.due("printed(0) of a new object", 0, x.printed(0));
        House.due("end(0) of a new object", 0, x.end(0));
        House.due("end(1) of a new object", -1, x.end(1));
        House.due("build() of a new object", -1, x.build());
        House.due("fault(0) of no text", 1, x.fault(0));
        House.due("fault(1) of no text", 0, x.fault(1));
    }

    private static void feeding() {
        PointerHouse x = new PointerHouse();
        int blanks = 0x20202020;
        for (int i = 1; i <= 200; i++) {
            House.due("feed " + i, i * 20, x.feed(blanks, blanks, blanks, blanks, blanks));
        }
        House.due("feed beyond 4000", -1, x.feed(blanks, blanks, blanks, blanks, blanks));
        House.due("end(3981)", 3981, x.end(3981));
        House.due("feed beyond 4000 by one", -1, x.feed(blanks, blanks, blanks, blanks, blanks));
        House.due("end(3981) again: none came", 3981, x.end(3981));
        House.due("end(3980)", 3980, x.end(3980));
        House.due("feed up to 4000", 4000, x.feed(blanks, blanks, blanks, blanks, blanks));
        House.due("build of blanks", -1, x.build());
        House.due("fault of blanks", 1, x.fault(0));
        House.due("its place: the text's length", 4000, x.fault(1));
        House.due("the text is empty behind build", 20, x.feed(blanks, blanks, blanks, blanks, blanks));
    }

    private static void bytesInOrder() {
        PointerHouse x = new PointerHouse();
        // "fun main(){print 1;}" in four bytes a number, the highest first
        x.feed(0x66756e20, 0x6d61696e, 0x28297b70, 0x72696e74, 0x20313b7d);
        House.due("build of twenty characters", 1, x.build());
        // the highest bit of a byte is a character's own, not a sign
        x.feed(0x66756e20, 0x6d61696e, 0x28297bff, 0x80ffffff, 0xffffffff);
        House.due("build with a 255", -1, x.build());
        House.due("fault at the 255", 1, x.fault(0));
        House.due("place of the 255", 11, x.fault(1));
    }

    private static void ending() {
        PointerHouse x = new PointerHouse();
        House.feed(x, "fun main(){}");
        House.due("end(-1)", -1, x.end(-1));
        House.due("end(13)", -1, x.end(13));
        House.due("end beyond all", -1, x.end(Integer.MAX_VALUE));
        House.due("end below all", -1, x.end(Integer.MIN_VALUE));
        House.due("end(12)", 12, x.end(12));
        House.due("end(11)", 11, x.end(11));
        House.due("end(12) of eleven", -1, x.end(12));
        House.due("build of the eleven", -1, x.build());
        House.due("its place", 11, x.fault(1));
        House.feed(x, "fun main(){}");
        House.due("build", 1, x.build());
        House.due("end(0) behind build", 0, x.end(0));
        House.due("end(1) behind build", -1, x.end(1));
        House.due("the program is still there", true, x.start(1, 4));
    }
}
