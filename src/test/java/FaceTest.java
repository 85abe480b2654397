import java.io.IOException;
import java.lang.reflect.Constructor;
import java.lang.reflect.Field;
import java.lang.reflect.Method;
import java.lang.reflect.Modifier;
import java.nio.file.Files;
import java.nio.file.Path;
import java.util.ArrayList;
import java.util.List;
import java.util.Set;
import java.util.TreeSet;
import java.util.regex.Matcher;
import java.util.regex.Pattern;

/** The public face: all of the document's, and nothing else that can be seen from outside. */
public final class FaceTest {
    private static final Path DOCUMENT = Path.of("../shared/DOC.md");
    private static final String[] CONSTANTS = {"BAD", "NONE", "OUTSIDE", "FULL"};
    private static final String[] METHODS = {
        "int toDay(int,int,int,int)", "int fromDay(int,int,int)", "int monthLength(int,int,int)",
        "int yearLength(int,int)", "int months(int,int)", "int addMonths(int,int,int)", "int addYears(int,int,int)",
        "int difference(int,int,int,int)", "int birthday(int,int,int)", "int row(int,int)", "int name(int,int,long)",
        "int monthNamed(int,long)", "int spellings(long)", "int feast(int,int,int,int,int)", "int feastDay(int,int)",
        "int moved(int,int)", "int movable(int,int)", "int feastOn(int,int)", "int age(int)", "int newMoon(int)",
        "double estimate(int)", "int light(int)", "int parish(int,boolean)", "int rule(int,int,int,int)",
        "int isOff(int,int)", "int worked(int,int,int)", "int nextOff(int,int)", "int inRow(int,int)",
        "int page(int,int,int,int)", "int sign(int,int)", "int book(int,int)", "int load(int,int)", "int byteAt(int)",
        "int spoil(int,int)", "int wipe()", "int verify()", "int undo()", "int count(int)"};

    public static void main(String[] args) throws IOException {
        constants();
        constructor();
        methods();
        theClassItself();
        classesInside();
        if (Files.isReadable(DOCUMENT)) {
            String document = Files.readString(DOCUMENT);
            faceOfTheDocument(document);
            headingsOfTheDocument(document, Files.readString(Path.of(args.length > 0 ? args[0] : "src/main/java/AlmanacHouse.java")));
        } else {
            System.out.println("no document at " + DOCUMENT + ": its own face was not looked at");
        }
        Due.end("FaceTest");
    }

    /** A constant stands behind case, what is only computed does not. */
    private static String refusal(int answer) {
        switch (answer) {
            case AlmanacHouse.BAD:
                return "BAD";
            case AlmanacHouse.NONE:
                return "NONE";
            case AlmanacHouse.OUTSIDE:
                return "OUTSIDE";
            case AlmanacHouse.FULL:
                return "FULL";
            default:
                return "none";
        }
    }

    private static void constants() {
        for (int i = 0; i < CONSTANTS.length; i++) {
            Due.yes(CONSTANTS[i] + " is " + (-1 - i), refusal(-1 - i).equals(CONSTANTS[i]));
        }
        Set<String> open = new TreeSet<>();
        for (Field f : AlmanacHouse.class.getDeclaredFields()) {
            if (!Modifier.isPrivate(f.getModifiers())) {
                open.add(f.getName());
                Due.yes(f + " is as told", f.getType() == int.class
                    && f.getModifiers() == (Modifier.PUBLIC | Modifier.STATIC | Modifier.FINAL));
            }
        }
        Due.yes("the open fields are the constants: " + open, open.equals(new TreeSet<>(List.of(CONSTANTS))));
    }

    private static void constructor() {
        Constructor<?>[] all = AlmanacHouse.class.getDeclaredConstructors();
        Due.is("constructors", all.length, 1);
        Due.yes("public, without parameters, throws nothing", Modifier.isPublic(all[0].getModifiers())
            && all[0].getParameterCount() == 0 && all[0].getExceptionTypes().length == 0);
    }

    private static String form(Method m) {
        List<String> types = new ArrayList<>();
        for (Class<?> type : m.getParameterTypes()) {
            types.add(type.getName());
        }
        return m.getReturnType() + " " + m.getName() + "(" + String.join(",", types) + ")";
    }

    private static void methods() {
        Set<String> names = new TreeSet<>();
        for (String method : METHODS) {
            names.add(method.substring(method.indexOf(' ') + 1, method.indexOf('(')));
        }
        Set<String> found = new TreeSet<>();
        for (Method m : AlmanacHouse.class.getDeclaredMethods()) {
            if (Modifier.isPrivate(m.getModifiers())) {
                Due.yes(m + " does not bear a name of the face", !names.contains(m.getName()));
            } else {
                Due.yes(m + " is as told", m.getModifiers() == Modifier.PUBLIC && m.getExceptionTypes().length == 0);
                found.add(form(m));
            }
        }
        Due.yes("the methods are those of the document: " + found, found.equals(new TreeSet<>(List.of(METHODS))));
    }

    private static void theClassItself() {
        Class<?> house = AlmanacHouse.class;
        Due.yes("public and final", house.getModifiers() == (Modifier.PUBLIC | Modifier.FINAL));
        Due.yes("without a package", house.getPackageName().isEmpty());
        Due.yes("of no other class or interface", house.getSuperclass() == Object.class && house.getInterfaces().length == 0);
    }

    private static void classesInside() {
        for (Class<?> c : AlmanacHouse.class.getDeclaredClasses()) {
            int modifiers = c.getModifiers();
            Due.yes(c + " is static and not open", Modifier.isStatic(modifiers) && !Modifier.isPublic(modifiers)
                && !Modifier.isProtected(modifiers));
        }
    }

    /** The list above is the document's own one. */
    private static void faceOfTheDocument(String document) {
        int start = document.indexOf("```java");
        String face = document.substring(start, document.indexOf("```", start + 3));
        Set<String> told = new TreeSet<>();
        Matcher method = Pattern.compile("public (int|double) (\\w+)\\((.*)\\);").matcher(face);
        while (method.find()) {
            String types = method.group(3).replaceAll(" \\w+(,|$)", "$1").replace(" ", "");
            told.add(method.group(1) + " " + method.group(2) + "(" + types + ")");
        }
        Due.yes("the document's methods: " + told, told.equals(new TreeSet<>(List.of(METHODS))));
        Due.yes("the document's constants",
            face.contains("public static final int BAD = -1, NONE = -2, OUTSIDE = -3, FULL = -4;"));
        Due.yes("the document's constructor", face.contains("public AlmanacHouse();"));
        Due.is("lines of the face", face.lines().filter(line -> line.endsWith(";")).count(), METHODS.length + 2);
    }

    /** Ahead of which calls the interface says what: the class's source says it, too. */
    private static void headingsOfTheDocument(String document, String source) {
        Matcher told = Pattern.compile("Ahead of the calls (.*) the interface says: (---- .*)\\.").matcher(document);
        int headings = 0;
        while (told.find()) {
            headings++;
            int at = source.indexOf("// " + told.group(2) + "\n");
            Due.yes("the source says " + told.group(2), at >= 0);
            String below = source.substring(Math.max(0, at) + 3);
            String part = below.substring(0, below.indexOf("// ----"));
            for (String name : told.group(1).split(", ")) {
                String call = name.replace("`", "");
                Due.yes(call + " stands below " + told.group(2), part.matches("(?s).* public (int|double) " + call + "\\(.*"));
            }
            Due.is("calls below " + told.group(2), Pattern.compile(" public ").matcher(part).results().count(),
                told.group(1).split(", ").length);
        }
        Due.is("headings", headings, 6);
    }
}
