import java.lang.reflect.Constructor;
import java.lang.reflect.Field;
import java.lang.reflect.Method;
import java.lang.reflect.Modifier;
import java.util.Arrays;
import java.util.TreeSet;

/** The public face is the document's and no more (rule 1 of LANGUAGE.md). */
public final class FaceTest {
    private static final Due DUE = new Due();

    private static final String[] METHODS = {
        "int answer(int,boolean)", "int by(int)", "int change(int,int)", "int conflict(int,int)",
        "int counted(int)", "int group(int,int)", "int groups()", "int landed(int)",
        "int member(int,int)", "int step()", "int waiting(int)", "int where(int)", "int why(int)",
        "boolean jump(int)", "boolean leave(int)", "boolean pause(boolean)",
    };

    public static void main(String[] args) {
        checkClass();
        checkMethods();
        checkFields();
        checkConstructors();
        checkNestedClasses();
        DUE.finish();
    }

    private static void checkClass() {
        int modifiers = MergeQueue.class.getModifiers();
        DUE.is("public", Modifier.isPublic(modifiers), true);
        DUE.is("final", Modifier.isFinal(modifiers), true);
        DUE.is("package", MergeQueue.class.getPackageName(), "");
    }

    private static void checkMethods() {
        TreeSet<String> shown = new TreeSet<>();
        for (Method m : MergeQueue.class.getDeclaredMethods()) {
            if (!Modifier.isPrivate(m.getModifiers())) {
                shown.add((Modifier.isPublic(m.getModifiers()) ? "" : "not public ") + signature(m));
            }
        }
        DUE.is("methods", shown.toString(), new TreeSet<>(Arrays.asList(METHODS)).toString());
    }

    private static String signature(Method m) {
        return m.getReturnType().getName() + " " + m.getName() + parameters(m.getParameterTypes());
    }

    private static String parameters(Class<?>[] types) {
        StringBuilder text = new StringBuilder("(");
        for (int i = 0; i < types.length; i++) {
            text.append(i == 0 ? "" : ",").append(types[i].getName());
        }
        return text.append(')').toString();
    }

    private static void checkFields() {
        for (Field f : MergeQueue.class.getDeclaredFields()) {
            boolean none = f.getName().equals("NONE");
            DUE.is("private " + f.getName(), Modifier.isPrivate(f.getModifiers()), !none);
            if (none || Modifier.isStatic(f.getModifiers())) {
                DUE.is("final " + f.getName(), Modifier.isFinal(f.getModifiers()), true);
            }
        }
        DUE.is("NONE", MergeQueue.NONE, -1);
    }

    private static void checkConstructors() {
        Constructor<?>[] all = MergeQueue.class.getDeclaredConstructors();
        DUE.is("constructors", all.length, 1);
        DUE.is("constructor", parameters(all[0].getParameterTypes()), "(int,int,int)");
        DUE.is("public constructor", Modifier.isPublic(all[0].getModifiers()), true);
    }

    private static void checkNestedClasses() {
        for (Class<?> c : MergeQueue.class.getDeclaredClasses()) {
            DUE.is("static " + c.getName(), Modifier.isStatic(c.getModifiers()), true);
            DUE.is("public " + c.getName(), Modifier.isPublic(c.getModifiers()), false);
        }
    }
}
