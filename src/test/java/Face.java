import java.lang.reflect.Constructor;
import java.lang.reflect.Field;
import java.lang.reflect.Method;
import java.lang.reflect.Modifier;
import java.util.Set;
import java.util.TreeSet;

/** The public face: just the constants, the constructor and the methods of the document. */
public final class Face {
    private static final String[] METHODS = {"feed(int,int,int,int,int)", "end(int)", "vowel(int,boolean)",
        "pair(int,int,int)", "word()", "unword()", "foot(int,int,int,int,int)", "form(int,int,int)", "cut(int,int)",
        "licence(int,int)", "line()", "fault(int)", "syllable(int,int)", "scan(int)", "best(int)", "lay(int)",
        "reading(int,int)", "step(int,int,int)", "near(int)", "tell(int,int,int,int,int,int)", "check(int)",
        "keep(int)", "drop(int)", "rhyme(int,int)", "scheme(int)", "place(int,int,int,int,boolean)", "judge()",
        "judged(int)", "fits(int,int,int)", "fit(int,int)", "learn(int)", "count(int)"};

    private Face() {
    }

    public static void main(String[] args) throws IllegalAccessException {
        Class<?> face = MetreDesk.class;
        Check.due("final and public", face.getModifiers(), Modifier.PUBLIC | Modifier.FINAL);
        Set<String> due = new TreeSet<>(Set.of(METHODS));
        Set<String> names = new TreeSet<>();
        for (String method : METHODS) {
            names.add(method.substring(0, method.indexOf('(')));
        }
        Set<String> there = new TreeSet<>();
        for (Method m : face.getDeclaredMethods()) {
            if (Modifier.isPrivate(m.getModifiers())) {
                Check.due("a private method named " + m.getName(), names.contains(m.getName()) ? 1 : 0, 0);
            } else {
                there.add(signature(m));
                Check.same("modifiers of " + m.getName(), Modifier.toString(m.getModifiers()), "public");
                Check.same("type of " + m.getName(), m.getReturnType().toString(), "int");
            }
        }
        Check.same("methods", there.toString(), due.toString());
        StringBuilder fields = new StringBuilder();
        for (Field f : face.getDeclaredFields()) {
            if (!Modifier.isPrivate(f.getModifiers())) {
                fields.append(f).append(" = ").append(f.getInt(null)).append(';');
            }
        }
        Check.same("constants", fields.toString(), "public static final int MetreDesk.NONE = -1;"
            + "public static final int MetreDesk.RANGE = -2;public static final int MetreDesk.FULL = -3;");
        for (Constructor<?> c : face.getDeclaredConstructors()) {
            Check.same("constructor", c.toString(), "public MetreDesk()");
        }
        Check.finish("Face");
    }

    private static String signature(Method m) {
        StringBuilder all = new StringBuilder(m.getName()).append('(');
        for (Class<?> type : m.getParameterTypes()) {
            all.append(all.charAt(all.length() - 1) == '(' ? "" : ",").append(type);
        }
        return all.append(')').toString();
    }
}
