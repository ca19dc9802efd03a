import java.lang.reflect.Constructor;
import java.lang.reflect.Field;
import java.lang.reflect.Method;
import java.lang.reflect.Modifier;
import java.nio.file.Files;
import java.nio.file.Path;
import java.util.List;
import java.util.Set;
import java.util.TreeSet;
import java.util.regex.Matcher;
import java.util.regex.Pattern;

/** What can be told of LANGUAGE.md by looking at the class and its text. */
public final class LanguageRules {
    private static final String[] FACE = {"land()int", "place(int)int", "person(int,int,int)int", "fact(int,int,int,int,int)int",
        "also(int,int)int", "back(boolean,int)boolean", "evenings(int)int", "feed(int,int,int,int,int)int",
        "act(int,int,int,int)int", "fault()int", "force(int,int,int)boolean", "landOf(int,int,int)int", "ways(int,int)int",
        "belongs(int,int,int,int)int", "says(int,int,int,int)int", "settles(int,int,int,int)int", "lands(int,int,int,int)int",
        "chain(int,int,int,int,int,int)int", "times(int,int,int,int,int)int", "ifStruck(int,int,int,int)int", "count(int)int"};
    private static final String[] BANNED = {"->", "::", "\\bcatch\\b", "\\btry\\b", "\\bfinally\\b", "\\bsynchronized\\b", "\\bassert\\b",
        "Exact\\(", "\\bstatic \\{", "\\bObject\\b", "\\bString\\[", "\\+ \"", "\" \\+", "\\bSystem\\.(?!arraycopy)", "\\bvar\\b",
        "\\bhashCode\\b", "\\btoString\\b", "\\bpackage\\b", "\\bprotected\\b", "\\bgoto\\b", "\\bnative\\b", "\\bvolatile\\b"};
    private static int wrong = 0;

    private static void must(boolean holds, String what) {
        if (holds) return;
        wrong++;
        System.out.println("LanguageRules: " + what);
    }

    public static void main(String[] args) throws Exception {
        face();
        for (Class<?> c : LandBonds.class.getDeclaredClasses()) fields(c);
        fields(LandBonds.class);
        must(LandBonds.class.getDeclaredClasses().length < 13, "at most some twelve classes");
        text(Files.readString(Path.of(args[0])));
        System.out.println(wrong == 0 ? "LanguageRules: kept" : "LanguageRules: broken");
        if (wrong != 0) System.exit(1);
    }

    private static String signature(Method m) {
        StringBuilder s = new StringBuilder(m.getName()).append('(');
        for (Class<?> p : m.getParameterTypes()) s.append(s.charAt(s.length() - 1) == '(' ? "" : ",").append(p.getName());
        return s.append(')').append(m.getReturnType().getName()).toString();
    }

    private static void face() {
        Set<String> found = new TreeSet<>(), names = new TreeSet<>();
        for (Method m : LandBonds.class.getDeclaredMethods()) {
            if (Modifier.isPrivate(m.getModifiers())) continue;
            must(Modifier.isPublic(m.getModifiers()), m + " is neither public nor private");
            found.add(signature(m));
            names.add(m.getName());
        }
        must(found.equals(new TreeSet<>(List.of(FACE))), "the face is " + found);
        must(Modifier.isFinal(LandBonds.class.getModifiers()), "the class is final");
        Constructor<?>[] made = LandBonds.class.getDeclaredConstructors();
        must(made.length == 1 && Modifier.isPublic(made[0].getModifiers()) && made[0].getParameterCount() == 0, "one constructor");
        for (Class<?> c : LandBonds.class.getDeclaredClasses()) {
            must(Modifier.isStatic(c.getModifiers()) && !Modifier.isPublic(c.getModifiers()), c + " is static, not public");
            for (Method m : c.getDeclaredMethods()) must(!names.contains(m.getName()), m + " bears a public name");
        }
        for (Method m : LandBonds.class.getDeclaredMethods()) {
            if (Modifier.isPrivate(m.getModifiers())) must(!names.contains(m.getName()), m + " bears a public name");
        }
    }

    private static void fields(Class<?> c) {
        int own = 0;
        for (Field f : c.getDeclaredFields()) {
            if (!Modifier.isStatic(f.getModifiers())) {
                own++;
                if (c == LandBonds.class) must(Modifier.isPrivate(f.getModifiers()), f + " is private");
                continue;
            }
            must(Modifier.isFinal(f.getModifiers()), f + " is final");
            boolean open = !Modifier.isPrivate(f.getModifiers());
            if (c == LandBonds.class) must(!open || f.getName().equals("NONE"), f + " is private");
        }
        must(own <= 20, c + " has " + own + " fields");
        for (Method m : c.getDeclaredMethods()) must(m.getParameterCount() <= 7, m + " takes more than seven");
    }

    private static void text(String whole) {
        String code = whole.replaceAll("(?s)/\\*.*?\\*/", "").replaceAll("//[^\\n]*", "");
        for (char sign : whole.toCharArray()) must(sign < 128, "a sign above 127");
        for (String no : BANNED) must(!Pattern.compile(no).matcher(code).find(), "holds " + no);
        Matcher imports = Pattern.compile("import ([\\w.]+);").matcher(code);
        while (imports.find()) {
            must(Set.of("java.util.Arrays", "java.util.NoSuchElementException").contains(imports.group(1)), imports.group());
        }
        Matcher thrown = Pattern.compile("throw (?!new (NoSuchElement|IllegalArgument)Exception\\(\\);)").matcher(code);
        must(!thrown.find(), "throws another exception");
        methods(code);
    }

    /** Methods stay short: from a line that opens one up to the brace under its head. */
    private static void methods(String code) {
        String[] lines = code.split("\n");
        for (int i = 0; i < lines.length; i++) {
            Matcher head = Pattern.compile("^( +)[\\w\\[\\] ]+\\(.*\\{$").matcher(lines[i]);
            if (!head.find() || lines[i].matches(" *(if|for|while|switch|do|else).*")) continue;
            int end = i;
            while (end < lines.length - 1 && !lines[end].equals(head.group(1) + "}")) end++;
            must(end - i < 60, "a method of " + (end - i) + " lines: " + lines[i].trim());
        }
    }
}
