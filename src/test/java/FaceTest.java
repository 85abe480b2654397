import java.io.IOException;
import java.lang.management.ManagementFactory;
import java.lang.reflect.Constructor;
import java.lang.reflect.Field;
import java.lang.reflect.Method;
import java.lang.reflect.Modifier;
import java.nio.file.Files;
import java.nio.file.Path;
import java.util.HashSet;
import java.util.List;
import java.util.Set;
import java.util.TreeSet;

/** The public face, and the rules of LANGUAGE.md that source and class show. */
public final class FaceTest {
    private static final String[] METHODS = {
        "int toDay(int,int,int,int)", "int fromDay(int,int,int)", "int monthLength(int,int,int)",
        "int yearLength(int,int)", "int months(int,int)", "int addMonths(int,int,int)", "int addYears(int,int,int)",
        "int difference(int,int,int,int)", "int birthday(int,int,int)", "int row(int,int)", "int name(int,int,long)",
        "int monthNamed(int,long)", "int spellings(long)", "int feast(int,int,int,int,int)", "int feastDay(int,int)",
        "int moved(int,int)", "int movable(int,int)", "int feastOn(int,int)", "int age(int)", "int newMoon(int)",
        "double estimate(int)", "int light(int)", "int parish(int,boolean)", "int rule(int,int,int,int)",
        "int isOff(int,int)", "int worked(int,int,int)", "int nextOff(int,int)", "int inRow(int,int)",
        "int page(int,int,int,int)", "int sign(int,int)", "int book(int,int)", "int load(int,int)", "int byteAt(int)",
        "int spoil(int,int)", "int wipe()", "int verify()", "int undo()", "int count(int)"};
    private static final String[] FORBIDDEN = {
        "->", "::", "synchronized", "assert ", "finally", "try {", "catch", "throw", "Exact(", "System.", "static {",
        "@Override", "Random", "Thread", "<>", "hashCode", ".equals", "volatile", "transient", "native "};
    private static final long ROOM = 2_000;

    public static void main(String[] args) throws IOException {
        constants();
        members();
        classesInside();
        if (args.length > 0) {
            source(Files.readAllLines(Path.of(args[0])));
        }
        callsMakeNothing();
        Due.end("FaceTest");
    }

    private static void constants() {
        Due.is("BAD", AlmanacHouse.BAD, -1);
        Due.is("NONE", AlmanacHouse.NONE, -2);
        Due.is("OUTSIDE", AlmanacHouse.OUTSIDE, -3);
        Due.is("FULL", AlmanacHouse.FULL, -4);
    }

    private static void members() {
        Class<?> house = AlmanacHouse.class;
        Due.yes("the class is public and final",
            Modifier.isPublic(house.getModifiers()) && Modifier.isFinal(house.getModifiers()));
        Set<String> found = new TreeSet<>();
        for (Method m : house.getDeclaredMethods()) {
            if (Modifier.isPrivate(m.getModifiers())) {
                continue;
            }
            Due.yes(m + " is public and of the object",
                Modifier.isPublic(m.getModifiers()) && !Modifier.isStatic(m.getModifiers()));
            StringBuilder text = new StringBuilder(m.getReturnType() + " " + m.getName() + "(");
            for (int i = 0; i < m.getParameterCount(); i++) {
                text.append(i == 0 ? "" : ",").append(m.getParameterTypes()[i]);
            }
            found.add(text + ")");
        }
        Due.yes("the methods are those of the document: " + found, found.equals(new TreeSet<>(List.of(METHODS))));
        int open = 0;
        for (Field f : house.getDeclaredFields()) {
            open += Modifier.isPrivate(f.getModifiers()) ? 0 : 1;
        }
        Due.is("open fields", open, 4);
        Constructor<?>[] constructors = house.getDeclaredConstructors();
        Due.yes("one public constructor without parameters", constructors.length == 1
            && constructors[0].getParameterCount() == 0 && Modifier.isPublic(constructors[0].getModifiers()));
    }

    private static void classesInside() {
        Class<?>[] inside = AlmanacHouse.class.getDeclaredClasses();
        Due.yes("at most twelve classes", inside.length + 1 <= 12);
        Set<String> face = new HashSet<>();
        for (String m : METHODS) {
            face.add(m.substring(m.indexOf(' ') + 1, m.indexOf('(')));
        }
        shape(AlmanacHouse.class, face);
        for (Class<?> c : inside) {
            int modifiers = c.getModifiers();
            Due.yes(c + " is static and not open", Modifier.isStatic(modifiers) && !Modifier.isPublic(modifiers)
                && !Modifier.isProtected(modifiers));
            shape(c, face);
        }
    }

    private static void shape(Class<?> c, Set<String> face) {
        int fields = 0;
        for (Field f : c.getDeclaredFields()) {
            boolean constant = Modifier.isStatic(f.getModifiers());
            Due.yes(f + " is final if static", !constant || Modifier.isFinal(f.getModifiers()));
            fields += constant ? 0 : 1;
        }
        Due.yes(c + " has at most twenty fields", fields <= 20);
        for (Method m : c.getDeclaredMethods()) {
            Due.yes(m + " takes at most seven", m.getParameterCount() <= 7);
            Due.yes(m + " does not bear a name of the face",
                Modifier.isPublic(m.getModifiers()) || !face.contains(m.getName()));
        }
    }

    private static void source(List<String> lines) {
        int start = -1;
        for (int i = 0; i < lines.size(); i++) {
            String line = lines.get(i);
            Due.yes("plain signs in line " + (i + 1), line.chars().allMatch(c -> c >= 32 && c < 127));
            Due.yes("line " + (i + 1) + " imports no other thing",
                !line.startsWith("import") || line.equals("import java.util.Arrays;"));
            Due.yes("no package in line " + (i + 1), !line.startsWith("package"));
            boolean comment = line.trim().startsWith("*") || line.trim().startsWith("/");
            for (String word : FORBIDDEN) {
                Due.yes(word + " in line " + (i + 1), comment || !line.contains(word));
            }
            boolean opens = line.matches(" {4}( {4})?[a-z].*\\) \\{");
            if (opens) {
                start = i;
            }
            if (line.matches(" {4}( {4})?\\}") && start >= 0) {
                Due.yes("the method at line " + (start + 1) + " has at most sixty lines", i - start <= 60);
                start = -1;
            }
        }
    }

    /** All calls of a run live in one room, so no call makes an object. */
    private static void callsMakeNothing() {
        com.sun.management.ThreadMXBean threads =
            (com.sun.management.ThreadMXBean) ManagementFactory.getThreadMXBean();
        long id = Thread.currentThread().getId();
        useAll(new AlmanacHouse());
        AlmanacHouse x = new AlmanacHouse();
        long before = threads.getThreadAllocatedBytes(id);
        useAll(x);
        long made = threads.getThreadAllocatedBytes(id) - before;
        Due.yes("the calls of a run make nothing, not " + made + " bytes", made < ROOM);
        before = threads.getThreadAllocatedBytes(id);
        AlmanacHouse y = new AlmanacHouse();
        made = threads.getThreadAllocatedBytes(id) - before;
        Due.yes("a new object is small, not " + made + " bytes", made < 56_000 && y.count(0) == 0);
    }

    private static void useAll(AlmanacHouse x) {
        x.row(100, 200);
        x.parish(96, true);
        for (int i = 0; i < 28; i++) {
            x.feast(i % 3, 1 + i % 9, 1, i % 7 == 0 ? 1 : i % 5 + 1, i % 10);
            x.rule(0, i, 1, 1);
        }
        for (int c = 0; c < 8; c++) {
            x.name(c, 1, 5);
            x.addMonths(c, 150, 3);
            x.addYears(c, 150, 3);
            x.difference(c, 100, 90000, 2);
            x.birthday(c, 100, 2000);
            x.page(0, c, 1, 1);
            x.fromDay(c, 100, 2);
            x.toDay(c, 2, 3, 4);
            x.monthLength(c, 2, 3);
            x.yearLength(c, 2);
            x.months(c, 2);
            x.monthNamed(c, 5);
            x.spellings(5);
            x.sign(c, c);
        }
        for (int y = 1; y < 1500; y += 700) {
            x.feastDay(3, y);
            x.moved(3, y);
            x.movable(0, y);
            x.feastOn(365 * y, 0);
            x.isOff(0, 365 * y);
            x.worked(0, 365 * y, 365 * y + 799);
            x.nextOff(0, 365 * y);
            x.inRow(0, 365 * y);
            x.book(0, y);
            x.age(y);
            x.newMoon(y);
            x.estimate(y);
            x.light(y);
        }
        x.load(1, 4);
        x.byteAt(0);
        x.spoil(0, 1);
        x.verify();
        x.wipe();
        for (int i = 0; i < 20; i++) {
            x.undo();
            x.count(5);
        }
    }
}
