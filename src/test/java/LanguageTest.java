import java.io.IOException;
import java.lang.reflect.Constructor;
import java.lang.reflect.Field;
import java.lang.reflect.Method;
import java.lang.reflect.Modifier;
import java.nio.charset.StandardCharsets;
import java.nio.file.Files;
import java.nio.file.Path;
import java.util.ArrayList;
import java.util.List;
import java.util.Set;
import java.util.TreeSet;
import java.util.regex.Matcher;
import java.util.regex.Pattern;

/** The rules of LANGUAGE.md that a program can look after: the face by reflection, the rest by the source's text. */
public final class LanguageTest {
    private static final Path SOURCE = Path.of("src/main/java/StormSlots.java");
    private static final String[] FACE = {
        "feed 5", "schedule 1", "flight 4", "draws 2", "letter 1", "rate 2", "storm 4", "now 1", "told 2", "slot 1", "at 1",
        "plan 0", "revise 0", "cancel 1", "exchange 2", "move 2", "fill 0", "vacant 2", "offer 4", "withdraw 1", "offered 2",
        "deal 2", "bestDeal 1", "line 2", "bestOrder 2", "order 1", "bestCancel 2", "helps 2", "rank 1", "unfair 0",
        "link 3", "linked 2", "breaks 2", "round 3", "cancelAll 1", "byRule 2", "demand 2", "crowded 1", "would 4",
        "rateFor 3", "ifCut 2", "airborne 1", "next 1", "count 1", "keep 0", "undo 0"};
    private static final String[] BANNED = {
        "\\bthrow\\b", "\\btry\\b", "\\bcatch\\b", "\\bfinally\\b", "\\bsynchronized\\b", "\\bassert\\b", "\\bimport\\b", "\\bpackage\\b",
        "->", "::", "static\\s*\\{", "Exact\\(", "\\bSystem\\.(?!arraycopy)", "\\bThread\\b", "\\bRandom\\b", "\\bvar\\b", "\"",
        "\\b(hashCode|toString|equals)\\b", "\\bdouble\\b", "\\bfloat\\b", "\\byield\\b", "\\bprotected\\b", "while \\(true\\)"};
    private static final int MOST_LINES = 60;
    private static final int MOST_CLASSES = 12;
    private static final int MOST_FIELDS = 20;
    private static final int MOST_PARAMETERS = 7;
    private static int wrong;

    private static void expect(boolean holds, String rule) {
        if (!holds) {
            wrong++;
            System.out.println("LANGUAGE.md: " + rule);
        }
    }

    private static void face(Class<?> type) {
        Set<String> want = new TreeSet<>(List.of(FACE));
        Set<String> have = new TreeSet<>();
        for (Method m : type.getDeclaredMethods()) {
            if (Modifier.isPublic(m.getModifiers())) {
                have.add(m.getName() + " " + m.getParameterCount());
                expect(!Modifier.isStatic(m.getModifiers()), "a public method is static: " + m);
                boolean says = m.getName().equals("now") || m.getName().equals("withdraw");
                expect(m.getReturnType() == (says ? boolean.class : int.class), "what a method answers: " + m);
            } else {
                expect(Modifier.isPrivate(m.getModifiers()), "rule 1, neither public nor private: " + m);
            }
        }
        expect(have.equals(want), "rule 1, the face: " + have);
        for (Field f : type.getDeclaredFields()) {
            boolean none = f.getName().equals("NONE");
            expect(none ? Modifier.isPublic(f.getModifiers()) : Modifier.isPrivate(f.getModifiers()), "rule 1, a field: " + f);
        }
        Constructor<?>[] makers = type.getDeclaredConstructors();
        expect(makers.length == 1 && makers[0].getParameterCount() == 0 && Modifier.isPublic(makers[0].getModifiers()), "rule 1, the constructor");
        expect(Modifier.isPublic(type.getModifiers()) && Modifier.isFinal(type.getModifiers()), "rule 1, public and final");
    }

    private static void inside(Class<?> type) {
        Set<String> publicNames = new TreeSet<>();
        for (String f : FACE) publicNames.add(f.substring(0, f.indexOf(' ')));
        List<Class<?>> all = new ArrayList<>(List.of(type));
        all.addAll(List.of(type.getDeclaredClasses()));
        expect(all.size() <= MOST_CLASSES, "rule 11, classes: " + all.size());
        for (Class<?> c : all) {
            expect(c == type || Modifier.isStatic(c.getModifiers()), "rule 2, not static: " + c);
            expect(c.getDeclaredClasses().length == 0 || c == type, "a class two levels inside: " + c);
            int fields = 0;
            for (Field f : c.getDeclaredFields()) {
                boolean fixed = Modifier.isStatic(f.getModifiers());
                expect(!fixed || Modifier.isFinal(f.getModifiers()), "rule 5, a static field that is not final: " + f);
                if (!fixed) fields++;
            }
            expect(fields <= MOST_FIELDS, "rule 11, fields of " + c + ": " + fields);
            for (Method m : c.getDeclaredMethods()) {
                expect(m.getParameterCount() <= MOST_PARAMETERS, "rule 11, parameters: " + m);
                expect(c == type && Modifier.isPublic(m.getModifiers()) || !publicNames.contains(m.getName()), "rule 1, a public one's name: " + m);
            }
        }
    }

    private static void text(String source) {
        for (int k = 0; k < source.length(); k++) expect(source.charAt(k) < 128, "a sign that is not plain at " + k);
        String code = source.replaceAll("(?s)/\\*.*?\\*/", "").replaceAll("//.*", "");
        for (String banned : BANNED) {
            Matcher m = Pattern.compile(banned).matcher(code);
            expect(!m.find(), "the source has " + banned);
        }
        Matcher library = Pattern.compile("\\b(Integer|Math|Arrays|System|Long)\\.(\\w+)").matcher(code);
        Set<String> known = Set.of("Integer.bitCount", "Integer.MAX_VALUE", "Math.max", "Math.min", "System.arraycopy");
        while (library.find()) expect(known.contains(library.group()), "rule 4, a library call that was not looked at: " + library.group());
    }

    /** Methods begin at a line that ends with "{" and has a parameter list, four or eight blanks in. */
    private static void lengths(String source) {
        String[] lines = source.split("\n");
        for (int k = 0; k < lines.length; k++) {
            Matcher m = Pattern.compile("^( {4}| {8})(?! |/|\\*|\\}|for|if|while|switch)[\\w\\[\\] ]*\\(.*\\) \\{$").matcher(lines[k]);
            if (!m.matches()) continue;
            int end = k;
            while (end < lines.length && !lines[end].equals(m.group(1) + "}")) end++;
            expect(end - k < MOST_LINES, "rule 11, a method of " + (end - k + 1) + " lines: " + lines[k].trim());
        }
    }

    public static void main(String[] args) throws IOException {
        String source = Files.readString(SOURCE, StandardCharsets.UTF_8);
        face(StormSlots.class);
        inside(StormSlots.class);
        text(source);
        lengths(source);
        System.out.println(wrong == 0 ? "the source keeps to the rules" : wrong + " rules are broken");
        if (wrong != 0) System.exit(1);
    }
}
