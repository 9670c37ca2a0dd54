/** Promise 6: program. */
public final class ProgramTest {
    private static final String TITLES = "struct L'r{v:int;n:*'r L'r;};union U'r{i:int;p:*'r int;f:?'r int;};";

    public static void main(String[] args) {
        items();
        counts();
        nulls();
        boundsAndTags();
        withoutProgram();
        House.finish();
    }

    private static void counted(String text, int... want) {
        PointerHouse x = House.sound(text);
        for (int what = 0; what < want.length; what++) {
            House.due("program(" + what + ") of " + text, want[what], x.program(what));
        }
        House.due("program(-1) of " + text, -1, x.program(-1));
        House.due("program(7) of " + text, -1, x.program(7));
    }

    private static void steps(int what, int want, String steps) {
        PointerHouse x = House.sound(TITLES + House.main(steps));
        House.due("program(" + what + ") of " + steps, want, x.program(what));
    }

    private static void items() {
        counted("fun main(){}", 0, 1, 0, 0, 0, 0, 0);
        counted(TITLES + "fun f(){}fun main(){}", 2, 2, 0, 0, 0, 0, 0);
    }

    private static void counts() {
        steps(2, 3, "var a:int;if 1{var b:int;}return;var c:int=1;");
        House.due("vars of all funs, no parameters", 2,
                House.sound("fun f(x:int){var a:int;}fun main(){var b:int;}").program(2));
        steps(6, 4, "cell'H(cell'H(1));row'H(1,1);new'H U'H.i(1);");
        steps(6, 1, "return;new'H L'H{1,null};");
    }

    private static void nulls() {
        String p = "var p:*'H L'H=null;var q:*'H int=null;var u:*'H U'H=null;";
        steps(3, 0, p + "print p==null;print p==p;if p{}p=p;");
        steps(3, 1, p + "p.v;");
        steps(3, 1, p + "p.v=1;");
        steps(3, 1, p + "&p.v;");
        steps(3, 2, p + "&p.n.v;");
        steps(3, 1, p + "q^;");
        steps(3, 1, p + "q^=1;");
        steps(3, 1, p + "u is i;");
        steps(3, 1, p + "u.i;");
        steps(3, 1, p + "u.i=1;");
        steps(3, 1, p + "nn(p).v;");
        steps(3, 0, p + "nn(nn(cell'H(1)));");
        steps(3, 0, "new'H L'H{1,null}.v;cell'H(1)^;");
        steps(3, 0, p + "return;p.v;q^;");
        steps(3, 1, p + "return;p.n.v;");
    }

    private static void boundsAndTags() {
        steps(4, 3, "var f:?'H int=row'H(1,1);f[0]=f[0];&f[0];size(f);f+1;");
        steps(4, 2, "row'H(1,row'H(1,1))[0][0];");
        steps(5, 1, "var u:@'H U'H=new'H U'H.i(1);u.i;");
        steps(5, 0, "var u:@'H U'H=new'H U'H.i(1);u.i=1;(u.f)=row'H(1,1);u is f;");
        steps(5, 1, "var u:@'H U'H=new'H U'H.i(1);u.f[0]=1;");
        steps(5, 1, "var u:@'H U'H=new'H U'H.i(1);&u.f[0];");
        steps(5, 1, "var u:@'H U'H=new'H U'H.i(1);u.i=u.i;");
        steps(5, 0, "new'H L'H{1,null}.v;");
    }

    private static void withoutProgram() {
        PointerHouse x = House.sound("fun main(){}");
        House.due("program(1)", 1, x.program(1));
        House.build(x, "fun main(){");
        for (int what = -1; what < 8; what++) {
            House.due("program(" + what + ") behind a FAULT", -1, x.program(what));
        }
        House.build(x, "fun f(){}fun main(){}");
        House.due("program(1) behind a build", 2, x.program(1));
        x.start(1, 4);
        x.run(1);
        House.due("program(1) behind a run", 2, x.program(1));
    }
}
