import java.io.IOException;
import java.lang.reflect.Constructor;
import java.lang.reflect.Field;
import java.lang.reflect.Method;
import java.lang.reflect.Modifier;
import java.nio.file.Files;
import java.nio.file.Path;
import java.util.Arrays;
import java.util.Set;
import java.util.TreeSet;
import java.util.regex.Matcher;
import java.util.regex.Pattern;

/** The public face of the document, and those rules of LANGUAGE.md that can be read off the class and its text. */
public final class FaceTest {
    private static final Path SOURCE = Path.of("src/main/java/LostDesk.java");
    private static final String[] FACE = {
        "int status()", "int kind(int)", "boolean near(int,int,boolean)", "int place()", "boolean way(int,int,int)",
        "int far(int,int)", "int found(int,int,int,int,int)", "int lost(int,int,int,int,int,int)", "int told(int,int)",
        "int cost(int,int)", "boolean gap(int)", "int match()", "int matched(int)", "int sure(int,int)",
        "int alike(int,int)", "int questions(int,int)", "int claim(int,int,int,int)", "boolean hand(int,int)",
        "boolean bag(int,int)", "boolean keeping(int,int)", "int due(int)", "int tick(int)",
        "int reward(int,int,int,int)", "int out(int)"
    };
    private static final Path DOCUMENT = Path.of("../shared/DOC.md");
    private static final Pattern HEAD = Pattern.compile("(?m)^    (public .+?)(?:;| \\{)$");
    private static final Pattern OUTSIDE = Pattern.compile(
        "\\b(throw|throws|try|catch|synchronized|assert|package|protected|\\w+Exact)\\b|->|::|\\bimport (?!java\\.util\\.Arrays;)");
    private static final int MOST_PARAMETERS = 7;
    private static final int MOST_CLASSES = 12;
    private static final int MOST_FIELDS = 20;
    private static final Check CHECK = new Check();

    public static void main(String[] args) throws IOException {
        face();
        headsAreThoseOfTheDocument();
        nothingElseIsVisible();
        noPrivateNameIsPublic();
        textKeepsToTheLanguage();
        classesStaySmall();
        CHECK.end();
    }

    private static void face() {
        CHECK.due("class is public and final", LostDesk.class.getModifiers(), Modifier.PUBLIC | Modifier.FINAL);
        Set<String> there = new TreeSet<>();
        for (Method method : LostDesk.class.getDeclaredMethods()) {
            if (Modifier.isPublic(method.getModifiers())) there.add(describe(method));
        }
        Set<String> due = new TreeSet<>(Arrays.asList(FACE));
        holds("public methods are " + there, there.equals(due));
        Constructor<?>[] makers = LostDesk.class.getDeclaredConstructors();
        CHECK.due("constructors", makers.length, 1);
        CHECK.due("the constructor is public", makers[0].getModifiers(), Modifier.PUBLIC);
        CHECK.due("its parameters", makers[0].getParameterCount(), 0);
    }

    /** Names of parameters and the constant too, which the class file does not show. */
    private static void headsAreThoseOfTheDocument() throws IOException {
        Set<String> due = heads(Files.readString(DOCUMENT));
        Set<String> there = heads(Files.readString(SOURCE));
        CHECK.due("heads in the document", due.size(), FACE.length + 2);
        holds("public heads are " + there, there.equals(due));
        holds("the constant is among them", due.contains("public static final int NONE = -1"));
        CHECK.due("NONE", LostDesk.NONE, -1);
    }

    private static Set<String> heads(String text) {
        Set<String> heads = new TreeSet<>();
        Matcher head = HEAD.matcher(text);
        while (head.find()) {
            heads.add(head.group(1));
        }
        return heads;
    }

    private static String describe(Method method) {
        StringBuilder text = new StringBuilder(method.getReturnType().getName());
        text.append(' ').append(method.getName()).append('(');
        String comma = "";
        for (Class<?> type : method.getParameterTypes()) {
            text.append(comma).append(type.getName());
            comma = ",";
        }
        return text.append(')').toString();
    }

    private static void nothingElseIsVisible() {
        for (Method method : LostDesk.class.getDeclaredMethods()) {
            int modifiers = method.getModifiers();
            holds(method + " is public or private", Modifier.isPublic(modifiers) || Modifier.isPrivate(modifiers));
        }
        for (Field field : LostDesk.class.getDeclaredFields()) {
            boolean isNone = field.getName().equals("NONE");
            holds(field + " is private", isNone || Modifier.isPrivate(field.getModifiers()));
            holds(field + " is not public", isNone == Modifier.isPublic(field.getModifiers()));
        }
        for (Class<?> inside : LostDesk.class.getDeclaredClasses()) {
            int modifiers = inside.getModifiers();
            holds(inside + " is static", Modifier.isStatic(modifiers) && !Modifier.isPublic(modifiers));
        }
    }

    private static void noPrivateNameIsPublic() {
        Set<String> names = new TreeSet<>();
        for (String method : FACE) {
            names.add(method.substring(method.indexOf(' ') + 1, method.indexOf('(')));
        }
        for (Method method : LostDesk.class.getDeclaredMethods()) {
            boolean hidden = Modifier.isPrivate(method.getModifiers());
            holds(method + " has a name of its own", !hidden || !names.contains(method.getName()));
        }
        for (Class<?> inside : LostDesk.class.getDeclaredClasses()) {
            for (Method method : inside.getDeclaredMethods()) {
                holds(method + " has a name of its own", !names.contains(method.getName()));
            }
        }
    }

    private static void textKeepsToTheLanguage() throws IOException {
        String text = Files.readString(SOURCE);
        String code = text.replaceAll("(?s)/\\*.*?\\*/", "").replaceAll("//[^\n]*", "");
        Matcher outside = OUTSIDE.matcher(code);
        while (outside.find()) {
            holds("the code has " + outside.group(), false);
        }
        holds("the text has characters 0 to 255 alone", text.chars().allMatch(c -> c < 256));
    }

    private static void classesStaySmall() {
        Class<?>[] inside = LostDesk.class.getDeclaredClasses();
        holds("there are few classes", inside.length + 1 <= MOST_CLASSES);
        isSmall(LostDesk.class);
        for (Class<?> one : inside) {
            isSmall(one);
        }
    }

    private static void isSmall(Class<?> one) {
        long fields = Arrays.stream(one.getDeclaredFields()).filter(f -> !Modifier.isStatic(f.getModifiers())).count();
        holds(one + " has few fields", fields <= MOST_FIELDS);
        for (Field field : one.getDeclaredFields()) {
            boolean isStatic = Modifier.isStatic(field.getModifiers());
            holds(field + " is final if it is static", !isStatic || Modifier.isFinal(field.getModifiers()));
        }
        for (Method method : one.getDeclaredMethods()) {
            holds(method + " takes few parameters", method.getParameterCount() <= MOST_PARAMETERS);
        }
    }

    private static void holds(String what, boolean holds) {
        CHECK.due(what, holds ? 1 : 0, 1);
    }
}
