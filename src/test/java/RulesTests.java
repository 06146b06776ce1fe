import java.io.IOException;
import java.lang.reflect.Field;
import java.lang.reflect.Method;
import java.lang.reflect.Modifier;
import java.nio.file.Files;
import java.nio.file.Path;
import java.util.ArrayList;
import java.util.Arrays;
import java.util.List;
import java.util.TreeSet;
import java.util.regex.Matcher;
import java.util.regex.Pattern;

/** The class's face, and those rules of LANGUAGE.md that can be told from its members or its words. */
public final class RulesTests {
    private static final String[] FACE = {
        "int blank()", "int board()", "int count(int)", "int fault(boolean)", "int forget()", "int hurt(int)",
        "int letter(int)", "int node(int,int)", "int place(int)", "int probe(int)", "int shows(int,int)",
        "int stimulus()", "int suspect(int,int)", "int suspects(int)", "int way(int,int)", "long digest()"};
    private static int wrong = 0;

    public static void main(String[] args) throws IOException {
        face();
        constants();
        membersInside();
        words(Files.readString(Path.of("src/main/java/GuidedProbes.java")));
        anyArguments();
        System.out.println(wrong == 0 ? "the rules are kept" : wrong + " rules are not kept");
        if (wrong != 0) {
            System.exit(1);
        }
    }

    private static void rule(String what, boolean kept) {
        if (!kept) {
            wrong++;
            System.out.println("not kept: " + what);
        }
    }

    private static void face() {
        TreeSet<String> open = new TreeSet<>();
        List<String> hidden = new ArrayList<>();
        for (Method method : GuidedProbes.class.getDeclaredMethods()) {
            if (Modifier.isPrivate(method.getModifiers())) {
                hidden.add(method.getName());
                continue;
            }
            StringBuilder types = new StringBuilder();
            for (Class<?> type : method.getParameterTypes()) {
                types.append(types.length() == 0 ? "" : ",").append(type);
            }
            rule("public: " + method, method.getModifiers() == Modifier.PUBLIC);
            open.add(method.getReturnType() + " " + method.getName() + "(" + types + ")");
        }
        rule("the methods of the face, not " + open, open.equals(new TreeSet<>(Arrays.asList(FACE))));
        for (String name : hidden) {
            rule("a name of its own: " + name, Arrays.stream(FACE).noneMatch(call -> call.contains(" " + name + "(")));
        }
        int modifiers = GuidedProbes.class.getModifiers();
        rule("public and final", Modifier.isPublic(modifiers) && Modifier.isFinal(modifiers));
        rule("one constructor", GuidedProbes.class.getDeclaredConstructors().length == 1);
        rule("it is public", Modifier.isPublic(GuidedProbes.class.getDeclaredConstructors()[0].getModifiers()));
    }

    private static void constants() {
        rule("NONE", GuidedProbes.NONE == -1);
        rule("UNKNOWN", GuidedProbes.UNKNOWN == -1001);
        rule("OUTSIDE", GuidedProbes.OUTSIDE == -1002);
        rule("STATE", GuidedProbes.STATE == -1003);
        rule("FULL", GuidedProbes.FULL == -1004);
        List<String> known = Arrays.asList("NONE", "UNKNOWN", "OUTSIDE", "STATE", "FULL");
        for (Field field : GuidedProbes.class.getDeclaredFields()) {
            boolean isConstant = known.contains(field.getName());
            rule("private or of the face: " + field,
                isConstant ? Modifier.isPublic(field.getModifiers()) : Modifier.isPrivate(field.getModifiers()));
        }
    }

    private static void membersInside() {
        Class<?>[] inside = GuidedProbes.class.getDeclaredClasses();
        rule("at most twelve classes", inside.length < 12);
        List<Class<?>> all = new ArrayList<>(Arrays.asList(inside));
        all.add(GuidedProbes.class);
        for (Class<?> type : all) {
            rule("static: " + type, type == GuidedProbes.class || Modifier.isStatic(type.getModifiers()));
            rule("not open: " + type, type == GuidedProbes.class
                || (type.getModifiers() & (Modifier.PUBLIC | Modifier.PROTECTED)) == 0);
            int fields = 0;
            for (Field field : type.getDeclaredFields()) {
                int modifiers = field.getModifiers();
                rule("final, if static: " + field, !Modifier.isStatic(modifiers) || Modifier.isFinal(modifiers));
                fields += Modifier.isStatic(modifiers) ? 0 : 1;
            }
            rule("at most twenty fields: " + type, fields <= 20);
            for (Method method : type.getDeclaredMethods()) {
                rule("at most seven parameters: " + method, method.getParameterCount() <= 7);
                rule("no synthetic one: " + method, !method.isSynthetic());
            }
        }
    }

    private static void words(String source) {
        String code = source.replaceAll("(?s)/\\*.*?\\*/", "").replaceAll("//[^\n]*", "");
        String[] refused = {"throw", "throws", "try", "catch", "synchronized", "assert", "double", "float", "Object",
            "System\\.(?!arraycopy)", "->", "::", "Exact", "hashCode", "toString", "package", "Random", "Thread"};
        for (String word : refused) {
            String pattern = Character.isLetter(word.charAt(0)) ? "\\b" + word : word;
            rule("no " + word, !Pattern.compile(pattern).matcher(code).find());
        }
        Matcher imports = Pattern.compile("import ([^;]*);").matcher(code);
        while (imports.find()) {
            rule("no import of " + imports.group(1), imports.group(1).equals("java.util.Arrays"));
        }
        // Objects and rows are made with the object alone, so that no run of calls fills the room.
        for (String line : code.split("\n")) {
            rule("made by a call: " + line, !line.contains("new ") || line.matches("\\s*(private )?final [^(]* = new .*;"));
        }
        rule("signs of 1 to 127", source.chars().allMatch(sign -> sign > 0 && sign < 128));
    }

    /** Rule 7: no call throws, whatever it is given, with and without a BOARD and TICKS. */
    private static void anyArguments() {
        int[] odd = {Integer.MIN_VALUE, -1004, -301, -100, -2, -1, 0, 1, 2, 3, 9, 10, 11, 12, 13, 24, 31, 32, 39, 40, 41,
            63, 64, 100, 127, 128, 200, 300, 323, 324, 1000, Integer.MAX_VALUE};
        for (int state = 0; state < 4; state++) {
            GuidedProbes x = inState(state);
            for (int a : odd) {
                x.letter(a);
                x.suspects(a);
                x.count(a);
                x.place(a);
                x.probe(a);
                x.fault(a > 0);
                x.board();
                x.stimulus();
                for (int b : odd) {
                    x.node(a, b);
                    x.shows(a, b);
                    x.suspect(a, b);
                    x.way(a, b);
                }
                x.hurt(a);
                x.digest();
            }
        }
    }

    private static GuidedProbes inState(int state) {
        GuidedProbes x = new GuidedProbes();
        if ((state & 1) != 0) {
            type(x, "4;A0b;Db;D4;X56;O57;N8;X95;Da");
            rule("a BOARD", x.board() == 12);
        }
        if ((state & 2) != 0) {
            type(x, "0123456789abcdef");
            rule("a STIMULUS", x.stimulus() == 16);
        }
        return x;
    }

    private static void type(GuidedProbes x, String text) {
        for (int i = 0; i < text.length(); i++) {
            x.letter(text.charAt(i));
        }
    }
}
