import java.util.HashMap;
import java.util.HashSet;
import java.util.Map;
import java.util.Set;

/**
 * FAULT 1 by the document's grammar, written out once more as rows of rules: behind each beginning of some programs each
 * token is tried, and it must be told just where it can't stand (promises 4 and 5). Bounds but those of RS and dead are
 * not in the rules; GrammarBoundsTest has them.
 */
public final class TokenTest {
    private static final String[] RULES = {
        "PROGRAM = ITEM ITEMS", "ITEMS = ~ | ITEM ITEMS",
        "ITEM = struct Title RS { FIELD FIELDS } ; | union Title RS { FIELD FIELDS } ; | fun name RS ( PARAMETERS ) GIVES DEAD WHERE BLOCK",
        "RS = ~ | 'r | 'r 'r | 'r 'r 'r", "FIELDS = ~ | FIELD FIELDS", "FIELD = name : TYPE ;",
        "PARAMETERS = ~ | PARAMETER MOREPARAMETERS", "MOREPARAMETERS = ~ | , PARAMETER MOREPARAMETERS", "PARAMETER = name : TYPE",
        "GIVES = ~ | : TYPE", "DEAD = ~ | dead 'r | dead 'r 'r | dead 'r 'r 'r", "WHERE = ~ | where PAIR MOREPAIRS",
        "MOREPAIRS = ~ | , PAIR MOREPAIRS", "PAIR = 'r > 'r",
        "TYPE = int | @ 'r CELL | * 'r CELL | ? 'r TYPE", "CELL = TYPE | Title RS",
        "BLOCK = { STEPS }", "STEPS = ~ | STEP STEPS",
        "STEP = var name : TYPE ; | var name : TYPE = EXPR ; | if EXPR BLOCK | if EXPR BLOCK else BLOCK | while EXPR BLOCK | return ; | return EXPR ; "
                + "| print EXPR ; | throw EXPR ; | region 'r BLOCK | close 'r ; | try BLOCK catch BLOCK | EXPR = EXPR ; | EXPR ;",
        "EXPR = TERM MORETERMS", "MORETERMS = ~ | OPERATOR TERM MORETERMS", "OPERATOR = + | - | * | / | % | == | <",
        "TERM = PRIMARY TAILS", "TAILS = ~ | TAIL TAILS", "TAIL = . name | [ EXPR ] | ^ | is name",
        "PRIMARY = 7 | null | read | caught | name | name RS ( ARGUMENTS ) | new 'r Title RS { ARGUMENTS } | new 'r Title RS . name ( EXPR ) "
                + "| cell 'r ( EXPR ) | row 'r ( EXPR , EXPR ) | & TERM | nn ( EXPR ) | size ( EXPR ) | ( EXPR )",
        "ARGUMENTS = ~ | EXPR MOREARGUMENTS", "MOREARGUMENTS = ~ | , EXPR MOREARGUMENTS",
    };
    private static final String[] PROGRAMS = {
        "struct T 'r { a : int ; b : * 'r T 'r ; } ; union U { i : ? 'H int ; } ; fun main ( ) { }",
        "fun f 'a 'b ( x : int , y : @ 'a @ 'b T 'a 'b 'a ) : * 'a int dead 'a 'b 'a where 'a > 'b , 'b > 'a { return null ; } fun main ( ) { return ; }",
        "fun main ( ) { var x : int ; var y : ? 'H @ 'H int = x + 1 ; x = y ; x . a = 1 ; x [ 1 ] ^ is a ; f ( ) = 2 ; }",
        "fun main ( ) { if x { } if x == 1 { print 1 ; } else { throw 2 ; } while x < 3 { x = 4 ; } x ; }",
        "fun main ( ) { region 'a { close 'a ; } try { 1 ; } catch { caught ; } read ; return x * 2 / 3 % 4 - 5 ; }",
        "fun main ( ) { f 'a 'b 'c ( 1 , g ( ) , x . y ) ; new 'H T { } ; new 'H T 'a 'b 'c { 1 , 2 } . a ^ ; new 'H U 'a . i ( 1 ) is i ; }",
        "fun main ( ) { cell 'H ( 1 ) ^ = 2 ; row 'H ( 1 , 2 ) [ 3 ] ; & x . a ; & ( x [ 1 ] ) + 2 ; nn ( x ) . a ; size ( y ) ; ( ( 1 ) + 2 ) . a ; null == x ; }",
    };
    private static final String[] TRIED = ("struct union fun dead where var if else while return print region close try catch throw int null new cell row nn size is "
            + "read caught { } ( ) [ ] ; , : . = == < > + - * / % & @ ? ^ zz Zz 'zz 'H 7 999999999 $ 1a ' '9 'Zz abcdefghi ABCDEFGHI 1234567890 _ \"").split(" ");

    private static final Map<String, String[]> GRAMMAR = new HashMap<>();
    private static PointerHouse house = new PointerHouse();
    private static int calls = 0;

    public static void main(String[] args) {
        House.sentence("1: the first character of a token that can't stand there .. or is none; the text's length, if something is missing at its end.");
        for (String rule : RULES) {
            int equal = rule.indexOf(" = ");
            GRAMMAR.put(rule.substring(0, equal), rule.substring(equal + 3).split(" \\| "));
        }
        for (String program : PROGRAMS) {
            walk(program.split(" "));
        }
        House.finish();
    }

    private static void walk(String[] tokens) {
        Set<String> stacks = new HashSet<>();
        stacks.add("PROGRAM ");
        StringBuilder text = new StringBuilder();
        for (int i = 0; i <= tokens.length; i++) {
            Set<String> open = opened(stacks);
            for (String tried : TRIED) {
                check(text.toString(), tried, behind(open, kindOf(tried)));
            }
            if (i < tokens.length) {
                stacks = behind(open, kindOf(tokens[i]));
                text.append(tokens[i]).append(" ");
                House.due("whether " + text + "can stand by the rules", true, !stacks.isEmpty());
            }
        }
        House.due("whether " + text + "is whole", true, opened(stacks).contains(""));
    }

    /** What a token is in the rules; what is none of them is told by itself. */
    private static String kindOf(String token) {
        if (isFixed(token)) {
            return token;
        }
        if (token.matches("'H|'[a-z][a-z0-9]{0,7}")) {
            return "'r";
        }
        if (token.matches("[0-9]{1,9}")) {
            return "7";
        }
        if (token.matches("[A-Z][A-Za-z0-9]{0,7}")) {
            return "Title";
        }
        return token.matches("[a-z][a-z0-9]{0,7}") ? "name" : token;
    }

    private static boolean isFixed(String token) {
        for (int i = 0; i < 49; i++) {
            if (TRIED[i].equals(token)) {
                return true;
            }
        }
        return false;
    }

    /** The stacks with something that is no rule on top, or with nothing. */
    private static Set<String> opened(Set<String> stacks) {
        Set<String> open = new HashSet<>();
        for (String stack : stacks) {
            open(stack, open);
        }
        return open;
    }

    private static void open(String stack, Set<String> open) {
        int blank = stack.indexOf(' ');
        String[] rights = blank < 0 ? null : GRAMMAR.get(stack.substring(0, blank));
        if (rights == null) {
            open.add(stack);
            return;
        }
        for (String right : rights) {
            open((right.equals("~") ? "" : right + " ") + stack.substring(blank + 1), open);
        }
    }

    private static Set<String> behind(Set<String> open, String kind) {
        Set<String> next = new HashSet<>();
        for (String stack : open) {
            if (stack.startsWith(kind + " ")) {
                next.add(stack.substring(kind.length() + 1));
            }
        }
        return next;
    }

    private static void check(String text, String tried, Set<String> behind) {
        String whole = text + tried;
        calls += whole.length() / 20 + 6;
        if (calls > 500) {
            house = new PointerHouse();
            calls = 0;
        }
        House.build(house, whole);
        if (behind.isEmpty()) {
            House.due("fault(0) of " + whole, 1, house.fault(0));
            House.due("fault(1) of " + whole, text.length(), house.fault(1));
        } else if (opened(behind).contains("")) {
            House.due("whether FAULT 1 is there in " + whole, false, house.fault(0) == 1);
        } else {
            House.due("fault(0) of " + whole, 1, house.fault(0));
            House.due("fault(1) of " + whole, whole.length(), house.fault(1));
        }
    }
}
