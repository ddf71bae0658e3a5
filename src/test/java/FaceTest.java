import java.lang.reflect.Constructor;
import java.lang.reflect.Field;
import java.lang.reflect.Method;
import java.lang.reflect.Modifier;
import java.util.Set;
import java.util.TreeSet;

/** The public face: the document's constants, constructor and methods, and nothing else that is not private. */
public final class FaceTest {
    private static final String[] METHODS = {
        "public boolean PluginHost.rule(int,int,int,int)", "public boolean PluginHost.unrule()",
        "public boolean PluginHost.allows(int,int,int)", "public boolean PluginHost.put(int)",
        "public int PluginHost.wipe()", "public int PluginHost.submit()", "public int PluginHost.place()",
        "public int PluginHost.number()", "public int PluginHost.open(int,int)", "public boolean PluginHost.close(int)",
        "public boolean PluginHost.unload(int)", "public int PluginHost.call(int,int,int,int)",
        "public int PluginHost.result()", "public int PluginHost.left(int)", "public int PluginHost.peek(int,int)",
        "public long PluginHost.memory()"};
    private static final String[] CONSTANTS = {"ACCEPTED", "CUT", "BADHEAD", "TRAILING", "BADCODE", "BADJUMP", "BADFLOW",
        "DENIED", "NOROOM", "RETURNED", "QUOTA", "DIVIDE", "DEEP", "BLOCKED", "REFUSED"};
    private static final int[] VALUES = {0, 1, 2, 3, 4, 5, 6, 7, 8, 0, 1, 2, 3, 4, 5};

    public static void main(String[] args) throws Exception {
        Set<String> members = new TreeSet<>();
        Set<String> publicNames = new TreeSet<>();
        Set<String> privateNames = new TreeSet<>();
        for (Method method : PluginHost.class.getDeclaredMethods()) {
            if (Modifier.isPrivate(method.getModifiers())) {
                privateNames.add(method.getName());
            } else {
                publicNames.add(method.getName());
                members.add(method.toString());
            }
        }
        for (Constructor<?> constructor : PluginHost.class.getDeclaredConstructors()) {
            members.add(constructor.toString());
        }
        for (Field field : PluginHost.class.getDeclaredFields()) {
            if (!Modifier.isPrivate(field.getModifiers())) {
                members.add(field.toString());
            }
        }
        Set<String> due = new TreeSet<>(Set.of(METHODS));
        due.add("public PluginHost()");
        for (int i = 0; i < CONSTANTS.length; i++) {
            due.add("public static final int PluginHost." + CONSTANTS[i]);
            Check.due(CONSTANTS[i], PluginHost.class.getField(CONSTANTS[i]).getInt(null), VALUES[i]);
        }
        Check.due("the members " + members + " are those of the document", members.equals(due), true);
        privateNames.retainAll(publicNames);
        Check.due("private methods with public names " + privateNames, privateNames.size(), 0);
        Check.due("the class is final", Modifier.isFinal(PluginHost.class.getModifiers()), true);
        Check.due("nested classes", PluginHost.class.getDeclaredClasses().length, 0);
        Check.end();
    }
}
