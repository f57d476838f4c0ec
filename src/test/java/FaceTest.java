import java.lang.management.ManagementFactory;
import java.lang.reflect.Constructor;
import java.lang.reflect.Field;
import java.lang.reflect.InvocationTargetException;
import java.lang.reflect.Method;
import java.lang.reflect.Modifier;
import java.nio.file.Files;
import java.nio.file.Path;
import java.util.ArrayList;
import java.util.List;
import java.util.TreeSet;

/** The face as the document tells it, no call that ever throws, and the plainest rules of LANGUAGE.md. */
public final class FaceTest {
    private static final String[] METHODS = {
        "int feed(int,int,int,int,int)", "boolean end(int)", "int fault()", "int sheet()", "int voter(int,int)",
        "int place(int,int)", "int propose(int,int)", "int way(int,int,int)", "int votes(int,int)",
        "boolean beats(int,int)", "boolean wins(int,int)", "int line(int,int)", "int middle(int,int)", "int proof(int)",
        "int round(int)", "int winSet(int,int,int)", "int piece(int,int,int,int)", "int led(int,int,int)",
        "int best(int)", "int between(int,int)", "int rest()", "int lot(int)", "int need(int)", "int most(int,int)",
        "int peace()", "int make(int)", "int join(int)", "int doubt(int,int)", "int move(int,int,int)", "int undo()",
        "int moved(int,int)", "int count(int)"};
    private static final int[] ODD = {Integer.MIN_VALUE, Integer.MIN_VALUE + 1, -100, -2, -1, 0, 1, 2, 7, 8, 19, 20, 99,
        100, 9999, 10000, 1 << 30, Integer.MAX_VALUE};
    private static final Due DUE = new Due();

    private FaceTest() { }

    public static void main(String[] args) throws Exception {
        askFace();
        askClassesInside();
        askOddArguments();
        askRules();
        askLengths();
        askRoom();
        DUE.close();
    }

    private static void askFace() {
        Class<?> face = MiddleSheet.class;
        DUE.is("public final", face.getModifiers(), Modifier.PUBLIC | Modifier.FINAL);
        TreeSet<String> want = new TreeSet<>(List.of(METHODS));
        TreeSet<String> secret = new TreeSet<>();
        for (Method m : face.getDeclaredMethods()) {
            if (Modifier.isPrivate(m.getModifiers())) {
                secret.add(m.getName());
                continue;
            }
            DUE.is(m + " is of the face", want.remove(plainly(m)) && m.getModifiers() == Modifier.PUBLIC, true);
        }
        DUE.is("missing " + want, want.size(), 0);
        for (String method : METHODS) {
            String name = method.substring(method.indexOf(' ') + 1, method.indexOf('('));
            DUE.is("private " + name, secret.contains(name), false);
        }
        Constructor<?>[] made = face.getDeclaredConstructors();
        DUE.is("constructors", made.length, 1);
        DUE.is("public constructor", made[0].getModifiers(), Modifier.PUBLIC);
        for (Field f : face.getDeclaredFields()) {
            boolean constant = f.getName().equals("NONE") || f.getName().equals("VOID");
            DUE.is(f + " is private", Modifier.isPrivate(f.getModifiers()), !constant);
        }
    }

    /** Rules 1, 2 and 11: what the classes inside may be, and how much they may hold. */
    private static void askClassesInside() {
        TreeSet<String> names = new TreeSet<>();
        for (String method : METHODS) {
            names.add(method.substring(method.indexOf(' ') + 1, method.indexOf('(')));
        }
        for (Class<?> inside : MiddleSheet.class.getDeclaredClasses()) {
            int modifiers = inside.getModifiers();
            DUE.is(inside + " is static", Modifier.isStatic(modifiers), true);
            DUE.is(inside + " is hidden", Modifier.isPublic(modifiers) || Modifier.isProtected(modifiers), false);
            int fields = 0;
            for (Field f : inside.getDeclaredFields()) {
                boolean shared = Modifier.isStatic(f.getModifiers());
                fields += shared ? 0 : 1;
                DUE.is(f + " is final if static", !shared || Modifier.isFinal(f.getModifiers()), true);
            }
            DUE.is(inside + " has " + fields + " fields", fields <= 20, true);
            for (Method m : inside.getDeclaredMethods()) {
                DUE.is(m + " has a name of the face", names.contains(m.getName()), false);
                DUE.is(m + " takes at most seven", m.getParameterCount() <= 7, true);
            }
        }
    }

    private static String plainly(Method m) {
        StringBuilder s = new StringBuilder(m.getReturnType() + " " + m.getName() + "(");
        for (Class<?> type : m.getParameterTypes()) {
            s.append(s.charAt(s.length() - 1) == '(' ? "" : ",").append(type);
        }
        return s.append(')').toString();
    }

    /** Changes the object as little as can be: what the calls answer is asked elsewhere. */
    private static void askOddArguments() throws Exception {
        String[] states = {"", "voter 0 0;", "voter 99 99 by 9;place 0 0;",
            "win least 2/3;near side;stretch 9 9;" + "voter 1 1;".repeat(15) + "place 99 0;".repeat(20),
            "voter 0 0;voter 4 0;voter 0 4;place 0 0;place 4 0;place 1 1;"};
        for (String state : states) {
            for (Method m : MiddleSheet.class.getDeclaredMethods()) {
                if (Modifier.isPublic(m.getModifiers())) {
                    askOdd(m, state);
                }
            }
        }
    }

    private static void askOdd(Method m, String state) throws Exception {
        int n = m.getParameterCount();
        List<Object[]> rows = new ArrayList<>();
        for (int at = 0; at < Math.max(1, n); at++) {
            for (int odd : ODD) {
                for (int other = -1; other <= 1; other++) {
                    Object[] row = new Object[n];
                    for (int i = 0; i < n; i++) {
                        row[i] = i == at ? odd : other;
                    }
                    rows.add(row);
                }
            }
        }
        MiddleSheet sheet = Due.of(state);
        for (Object[] row : rows) {
            String thrown = "";
            try {
                m.invoke(sheet, row);
            } catch (InvocationTargetException e) {
                thrown = " " + e.getCause();
            }
            DUE.is("[" + state + "] " + m.getName() + List.of(row) + thrown, thrown.isEmpty(), true);
        }
    }

    private static void askRules() throws Exception {
        String source = Files.readString(Path.of("src/main/java/MiddleSheet.java"))
                .replaceAll("(?s)/\\*.*?\\*/", "").replaceAll("//[^\n]*", "");
        String[] never = {"throw", "throws", "try", "catch", "finally", "synchronized", "assert", "native", "package",
            "protected", "System", "Random", "Thread", "Object", "double", "float", "hashCode", "toString", "var"};
        for (String word : never) {
            boolean found = java.util.regex.Pattern.compile("\\b" + word + "\\b").matcher(source).find();
            DUE.is("the word " + word, found, false);
        }
        DUE.is("lambda", source.contains("->"), false);
        DUE.is("method reference", source.contains("::"), false);
        DUE.is("Exact", source.contains("Exact"), false);
        DUE.is("imports", source.split("\\bimport\\b", -1).length - 1, 1);
        DUE.is("import of Arrays", source.contains("import java.util.Arrays;"), true);
        DUE.is("classes", source.split("\\bclass\\b", -1).length - 1 <= 12, true);
    }

    /** Rule 11: methods stay short. They begin and end at their own indents. */
    private static void askLengths() throws Exception {
        int from = 0;
        int number = 0;
        for (String line : Files.readAllLines(Path.of("src/main/java/MiddleSheet.java"))) {
            number++;
            boolean begins = line.matches("( {4}| {8})[a-zA-Z].*\\) \\{");
            boolean ends = line.matches("( {4}| {8})\\}");
            from = begins ? number : from;
            if (ends && from > 0) {
                DUE.is("the method at line " + from + " stays short", number - from < 60, true);
                from = 0;
            }
        }
    }

    /** All calls of one run live in one room: the dearest calls again and again make nothing new. */
    private static void askRoom() {
        String text = "win over 1/2;" + "voter 3 4 by 2;voter 50 7;voter 9 80 by 3;".repeat(5) + "place 5 6;place 7 8;".repeat(10);
        dearestCalls(Due.of(text));
        long before = allocated();
        MiddleSheet m = new MiddleSheet();
        long made = allocated() - before;
        DUE.is("the constructor makes " + made + " bytes", made < 40000, true);
        Due.write(m, text);
        m.sheet();
        dearestCalls(m);
        before = allocated();
        for (int n = 0; n < 10; n++) {
            dearestCalls(m);
        }
        long more = allocated() - before;
        DUE.is("calls again make " + more + " bytes", more < 1000, true);
    }

    private static long allocated() {
        return ((com.sun.management.ThreadMXBean) ManagementFactory.getThreadMXBean()).getCurrentThreadAllocatedBytes();
    }

    private static void dearestCalls(MiddleSheet m) {
        m.move(0, 1, 1);
        m.round(0);
        m.middle(0, 0);
        m.proof(0);
        m.winSet(50, 50, 1);
        m.piece(9, 9, 0, 0);
        m.most(80, 80);
        m.between(0, 1);
        m.led(0, 1, 0);
        m.best(0);
        m.lot(0);
        m.make(0);
        m.join(0);
        m.doubt(0, 5);
        m.fault();
        m.undo();
    }
}
