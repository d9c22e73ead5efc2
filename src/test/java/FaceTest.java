import java.lang.reflect.Constructor;
import java.lang.reflect.Field;
import java.lang.reflect.Method;
import java.lang.reflect.Modifier;
import java.util.HashSet;
import java.util.Set;
import java.util.TreeSet;

/** The public face of the document, and what rules 1, 2, 4 and 5 of LANGUAGE.md say of members. */
public final class FaceTest {
    private static final String[] METHODS = {
        "public int CellFabric.gate(int,int,int,int)",
        "public int CellFabric.drop()",
        "public int CellFabric.signals()",
        "public boolean CellFabric.next(int,int)",
        "public boolean CellFabric.show(int,int)",
        "public boolean CellFabric.build(int)",
        "public boolean CellFabric.built()",
        "public boolean CellFabric.set(int,int)",
        "public int CellFabric.inputs()",
        "public int CellFabric.clock(int)",
        "public int CellFabric.registers()",
        "public boolean CellFabric.load(int,int)",
        "public int CellFabric.outputs()",
        "public int CellFabric.feed(int)",
        "public int CellFabric.tail()",
        "public int CellFabric.period()",
    };

    public static void main(String[] args) {
        Check.due("BAD", CellFabric.BAD, -1);
        Check.due("FULL", CellFabric.FULL, -2);
        Class<?> face = CellFabric.class;
        Check.due("the class's modifiers", face.getModifiers(), Modifier.PUBLIC | Modifier.FINAL);
        Check.due("nested classes", face.getDeclaredClasses().length, 0);
        constructor(face);
        methods(face);
        fields(face);
        Check.end();
    }

    private static void constructor(Class<?> face) {
        Constructor<?>[] all = face.getDeclaredConstructors();
        Check.due("constructors", all.length, 1);
        Check.due(all[0] + " is as in the document", all[0].toString().equals("public CellFabric()"), true);
    }

    private static void methods(Class<?> face) {
        Set<String> open = new TreeSet<>();
        Set<String> openNames = new HashSet<>();
        for (Method m : face.getDeclaredMethods()) {
            if (!Modifier.isPrivate(m.getModifiers())) {
                open.add(m.toString());
                openNames.add(m.getName());
            }
        }
        Check.due("the methods " + open + " are the document's", open.equals(new TreeSet<>(Set.of(METHODS))), true);
        for (Method m : face.getDeclaredMethods()) {
            if (Modifier.isPrivate(m.getModifiers())) {
                Check.due(m + " bears a public name", openNames.contains(m.getName()), false);
                Check.due(m + " answers an array", m.getReturnType().isArray(), false);
                Check.due(m + " has over seven parameters", m.getParameterCount() > 7, false);
            }
        }
    }

    private static void fields(Class<?> face) {
        int state = 0;
        for (Field f : face.getDeclaredFields()) {
            boolean constant = Modifier.isStatic(f.getModifiers());
            boolean named = f.getName().equals("BAD") || f.getName().equals("FULL");
            Check.due(f + " is private", Modifier.isPrivate(f.getModifiers()), !named);
            Class<?> type = f.getType();
            if (constant) {
                Check.due(f + " is final", Modifier.isFinal(f.getModifiers()), true);
                Check.due(f + " is an int or a long", type == int.class || type == long.class, true);
            } else {
                state++;
                Class<?> element = type.isArray() ? type.getComponentType() : type;
                boolean whole = element.isPrimitive() && element != float.class && element != double.class;
                Check.due(f + " holds whole numbers", whole, true);
            }
        }
        Check.due("there are over forty fields", state > 40, false);
    }
}
