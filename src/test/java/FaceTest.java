import java.lang.reflect.Constructor;
import java.lang.reflect.Field;
import java.lang.reflect.Method;
import java.lang.reflect.Modifier;
import java.util.Set;
import java.util.TreeSet;

// The class shows the members of the document's public face and no others.
public final class FaceTest {
    private static final Set<String> DUE = Set.of(
        "public final class RouteTable",
        "public static final int RouteTable.NONE",
        "public RouteTable()",
        "public boolean RouteTable.put(int,int,int)",
        "public boolean RouteTable.drop(int,int)",
        "public void RouteTable.clear()",
        "public int RouteTable.routes()",
        "public int RouteTable.exact(int,int)",
        "public int RouteTable.goal(int)",
        "public int RouteTable.bits(int)",
        "public int RouteTable.matching(int)",
        "public int RouteTable.next(int,int)",
        "public int RouteTable.load(int,int)",
        "public int RouteTable.sent(int)",
        "public boolean RouteTable.idle(int,int)",
        "public int RouteTable.spans()",
        "public int RouteTable.spanStart(int)");

    public static void main(String[] args) {
        Set<String> missing = new TreeSet<>(DUE);
        missing.removeAll(shown());
        Set<String> tooMany = shown();
        tooMany.removeAll(DUE);
        missing.forEach(member -> System.out.println("missing: " + member));
        tooMany.forEach(member -> System.out.println("not in the document: " + member));
        if (!missing.isEmpty() || !tooMany.isEmpty()) {
            System.exit(1);
        }
        System.out.println("the face is as due");
    }

    private static Set<String> shown() {
        Set<String> members = new TreeSet<>();
        members.add(RouteTable.class.toGenericString());
        for (Field field : RouteTable.class.getDeclaredFields()) {
            if (!Modifier.isPrivate(field.getModifiers())) {
                members.add(field.toString());
            }
        }
        for (Constructor<?> constructor : RouteTable.class.getDeclaredConstructors()) {
            if (!Modifier.isPrivate(constructor.getModifiers())) {
                members.add(constructor.toString());
            }
        }
        for (Method method : RouteTable.class.getDeclaredMethods()) {
            if (!Modifier.isPrivate(method.getModifiers())) {
                members.add(method.toString());
            }
        }
        return members;
    }
}
