import java.io.IOException;
import java.lang.reflect.Constructor;
import java.lang.reflect.Field;
import java.lang.reflect.Method;
import java.lang.reflect.Modifier;
import java.nio.file.Files;
import java.nio.file.Path;
import java.util.ArrayList;
import java.util.HashSet;
import java.util.List;
import java.util.Set;
import java.util.TreeSet;
import java.util.regex.Matcher;
import java.util.regex.Pattern;

/** The public face by reflection, and those rules of LANGUAGE.md that a look at the source can show. */
public final class FaceAndLanguage {
    private static int wrong = 0;

    public static void main(String[] args) throws IOException {
        face();
        noOtherMembers();
        language(Files.readString(Path.of(System.getProperty("straighttax.source", "src/main/java/StraightTax.java"))));
        System.out.println(wrong == 0 ? "the face and the language are as told" : wrong + " faults");
        if (wrong != 0) {
            System.exit(1);
        }
    }

    private static void fault(String what) {
        wrong++;
        System.out.println(what);
    }

    private static void face() {
        String[] due = {
            "int type(long,int)", "int clear()", "int town()", "int square(int)", "int law(int)", "int stand(int)",
            "int step(int)", "int undo()", "int one(int)", "int dusk(int)", "int cost(int,int)",
            "int cheapest(int,int,int)", "int quickest(int,int,int)", "int line(int,int,int,int)",
            "int fewTurns(int,int)", "int round(int,int)", "int errand(int,int)", "int home()", "int help(int)",
            "int fits(int,int,int,int)", "int rating(int)", "int keep(int)", "int back(int)", "int count(int)",
            "long trace()", "BAD=-1", "STATE=-2", "FULL=-3", "NONE=-9", "NO=-1000000", "new()"};
        Set<String> has = new TreeSet<>();
        for (Method m : StraightTax.class.getDeclaredMethods()) {
            if (Modifier.isPublic(m.getModifiers()) && !Modifier.isStatic(m.getModifiers())) {
                has.add(m.getReturnType().getName() + " " + m.getName() + parameters(m.getParameterTypes()));
            }
        }
        for (Field f : StraightTax.class.getDeclaredFields()) {
            int is = f.getModifiers();
            if (Modifier.isPublic(is) && Modifier.isStatic(is) && Modifier.isFinal(is) && f.getType() == int.class) {
                has.add(f.getName() + "=" + constant(f));
            }
        }
        for (Constructor<?> c : StraightTax.class.getDeclaredConstructors()) {
            if (Modifier.isPublic(c.getModifiers())) {
                has.add("new" + parameters(c.getParameterTypes()));
            }
        }
        Set<String> want = new TreeSet<>(List.of(due));
        if (!has.equals(want)) {
            fault("the face is " + has + ", due is " + want);
        }
        int is = StraightTax.class.getModifiers();
        if (!Modifier.isPublic(is) || !Modifier.isFinal(is)) {
            fault("the class is not public and final");
        }
    }

    private static String parameters(Class<?>[] types) {
        List<String> names = new ArrayList<>();
        for (Class<?> type : types) {
            names.add(type.getName());
        }
        return "(" + String.join(",", names) + ")";
    }

    private static int constant(Field f) {
        try {
            return f.getInt(null);
        } catch (IllegalAccessException e) {
            return 0;
        }
    }

    private static void noOtherMembers() {
        Set<String> open = new HashSet<>();
        for (Method m : StraightTax.class.getDeclaredMethods()) {
            if (Modifier.isPublic(m.getModifiers())) {
                open.add(m.getName());
            } else if (!Modifier.isPrivate(m.getModifiers())) {
                fault("seen from outside: " + m);
            }
        }
        for (Field f : StraightTax.class.getDeclaredFields()) {
            if (!Modifier.isPublic(f.getModifiers()) && !Modifier.isPrivate(f.getModifiers())) {
                fault("seen from outside: " + f);
            }
            if (Modifier.isStatic(f.getModifiers()) && !Modifier.isFinal(f.getModifiers())) {
                fault("static and not final: " + f);
            }
        }
        Class<?>[] inside = StraightTax.class.getDeclaredClasses();
        if (inside.length > 11) {
            fault("more than twelve classes");
        }
        for (Class<?> own : inside) {
            if (!Modifier.isStatic(own.getModifiers())) {
                fault("not static: " + own);
            }
            for (Method m : own.getDeclaredMethods()) {
                if (open.contains(m.getName())) {
                    fault("bears the name of a public one: " + m);
                }
                if (m.getParameterCount() > 7) {
                    fault("more than seven parameters: " + m);
                }
            }
        }
        for (Method m : StraightTax.class.getDeclaredMethods()) {
            if (Modifier.isPrivate(m.getModifiers()) && open.contains(m.getName())) {
                fault("bears the name of a public one: " + m);
            }
        }
    }

    private static void language(String source) {
        for (int i = 0; i < source.length(); i++) {
            if (source.charAt(i) > 126) {
                fault("a sign beyond 126 at " + i);
            }
        }
        String code = source.replaceAll("(?s)/\\*.*?\\*/", "").replaceAll("//[^\\n]*", "");
        String[] never = {"\\bthrow\\b", "\\btry\\b", "\\bcatch\\b", "\\bsynchronized\\b", "\\bassert\\b", "->", "::",
            "Exact\\b", "\\bprotected\\b", "^package\\b", "\\bThread\\b", "\\bSystem\\.(?!arraycopy)", "\\bhashCode\\b",
            "\\btoString\\b", "\\bstatic\\s*\\{", "@", "\\bvar\\b", "\\bfloat\\b", "\\bdouble\\b(?!\")", "\\bwhile \\(true"};
        for (String rule : never) {
            Matcher found = Pattern.compile(rule, Pattern.MULTILINE).matcher(code);
            if (found.find()) {
                fault("not in the language: " + found.group());
            }
        }
        Matcher imports = Pattern.compile("^import (.*);", Pattern.MULTILINE).matcher(code);
        while (imports.find()) {
            if (!imports.group(1).equals("java.util.Arrays")) {
                fault("imports " + imports.group(1));
            }
        }
        longMethods(code);
        constructors(code);
    }

    /** A constructor hands out nothing of the object that it makes: it calls others without arguments only. */
    private static void constructors(String code) {
        Matcher head = Pattern.compile("(?m)^( *)(?:public )?[A-Z]\\w*\\([^)]*\\) \\{$").matcher(code);
        while (head.find()) {
            int end = code.indexOf("\n" + head.group(1) + "}", head.end());
            String inside = code.substring(head.end(), end).replaceAll("\\b(for|if|while|switch) \\(", "");
            Matcher call = Pattern.compile("\\w+\\([^)]+\\)|\\bthis\\b").matcher(inside);
            if (call.find()) {
                fault("a constructor hands out what it may not:" + head.group() + " .. " + call.group());
            }
        }
    }

    /** A method begins at a line that ends in ") {" at a depth of one or two, and ends at the brace of its own depth. */
    private static void longMethods(String code) {
        String[] lines = code.split("\n");
        for (int from = 0; from < lines.length; from++) {
            Matcher head = Pattern.compile("^( {4}| {8})\\S.*\\) \\{$").matcher(lines[from]);
            if (head.matches()) {
                int to = from;
                while (to < lines.length && !lines[to].equals(head.group(1) + "}")) {
                    to++;
                }
                if (to - from > 60) {
                    fault("a method of " + (to - from) + " lines:" + lines[from]);
                }
            }
        }
    }
}
