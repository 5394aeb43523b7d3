import java.lang.reflect.Constructor;
import java.lang.reflect.Field;
import java.lang.reflect.Method;
import java.lang.reflect.Modifier;
import java.util.Arrays;
import java.util.List;
import java.util.Map;
import java.util.Set;
import java.util.TreeMap;
import java.util.TreeSet;

/** The public face of the document: these constants, methods and this constructor, and nothing else to be seen. */
public final class FaceTest {
    private FaceTest() { }

    public static void main(String[] args) throws ReflectiveOperationException {
        hasTheConstants();
        hasTheMethods();
        hasOneConstructor();
        Check.finish();
    }

    private static Map<String, Integer> constants() {
        Map<String, Integer> due = new TreeMap<>();
        String[] counted = {"CASH FUND", "ACTIVE DEFAULTING DEFAULTED", "CURRENT SETTLEMENT", "REQUIREMENT CALL",
            "WF_LOSS WF_DEFAULTER_FUND WF_HOUSE WF_SURVIVOR_FUNDS WF_HOUSE_EXCESS WF_WINNER WF_WINNING_BID"};
        for (String row : counted) {
            List<String> names = Arrays.asList(row.split(" "));
            for (String name : names) {
                due.put(name, names.indexOf(name));
            }
        }
        due.put("NO_WINNER", -1);
        due.put("FORCED_ALLOCATION", -2);
        due.put("MAX_AMOUNT", 1000000);
        due.put("MAX_PRICE", 100000);
        due.put("MAX_QTY", 1000);
        due.put("POSITION_LIMIT", 10000);
        return due;
    }

    private static void hasTheConstants() throws ReflectiveOperationException {
        Check.title("constants");
        Map<String, Integer> got = new TreeMap<>();
        for (Field field : ClearingHouse.class.getDeclaredFields()) {
            if (!Modifier.isPrivate(field.getModifiers())) {
                Check.due(field.getName(), "public static final int", Modifier.toString(field.getModifiers()) + " "
                    + field.getType());
                got.put(field.getName(), field.getInt(null));
            }
        }
        Check.due("the visible fields", constants(), got);
    }

    private static void hasTheMethods() {
        Check.title("methods");
        Set<String> due = new TreeSet<>(List.of("boolean deposit(int, int, int)", "boolean withdraw(int, int, int)",
            "boolean quote(int, int)", "boolean trade(int, int, int, int)", "boolean settle()", "int callMargins()",
            "boolean declareDefault(int)", "boolean bid(int, int)", "boolean closeAuction()",
            "long getBalance(int, int)", "long getHouse()", "int getPosition(int, int)", "int getPrice(int, int)",
            "long getMargin(int, int)", "int getStatus(int)", "long getWaterfall(int)"));
        Set<String> got = new TreeSet<>();
        for (Method method : ClearingHouse.class.getDeclaredMethods()) {
            if (!Modifier.isPrivate(method.getModifiers())) {
                Check.due(method.getName(), "public", Modifier.toString(method.getModifiers()));
                String parameters = Arrays.toString(method.getParameterTypes());
                got.add(method.getReturnType() + " " + method.getName() + "("
                    + parameters.substring(1, parameters.length() - 1) + ")");
            }
        }
        Check.due("the visible methods", due, got);
    }

    private static void hasOneConstructor() {
        Check.title("the class");
        Constructor<?>[] constructors = ClearingHouse.class.getDeclaredConstructors();
        Check.number("constructors", 1, constructors.length);
        Check.due("constructor", "public ClearingHouse(int,int,int,int)", constructors[0].toString());
        Check.due("modifiers", "public final", Modifier.toString(ClearingHouse.class.getModifiers()));
        Check.due("superclass", Object.class, ClearingHouse.class.getSuperclass());
        Check.number("interfaces", 0, ClearingHouse.class.getInterfaces().length);
        Check.number("nested classes", 0, ClearingHouse.class.getDeclaredClasses().length);
        Check.due("package", "", ClearingHouse.class.getPackageName());
    }
}
