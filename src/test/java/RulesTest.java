import java.lang.reflect.Constructor;
import java.lang.reflect.Field;
import java.lang.reflect.Method;
import java.lang.reflect.Modifier;
import java.nio.file.Files;
import java.nio.file.Path;
import java.util.ArrayList;
import java.util.Collections;
import java.util.List;
import java.util.Random;
import java.util.regex.Matcher;
import java.util.regex.Pattern;

/** The face, what LANGUAGE.md rules out and can be seen from outside, and calls with any numbers. */
public final class RulesTest {
    private static final String[] FACE = {
        "back(int)", "cancel(int,int,boolean,int,int)", "canyon()", "cell(int,int)", "changed(int,int,int,boolean)",
        "costs(int,int,boolean,int)", "count(int)", "cry(int,int,boolean,int)", "erase()", "fall(int)", "fault()",
        "forget()", "keep(int)", "law(int,int)", "led(int,int,boolean,int,int)", "living(int)", "note(int,int)",
        "owed(int,int)", "pay(int,int,int)", "person(int,int)", "settled()", "sounds(int,int,boolean,int,int)",
        "stand(int,int,boolean,int,int)", "whisper(int,int,boolean)", "who(int,int,boolean,int)", "write(long,int)",
    };
    private static final String[] BANNED = {
        "throw", "throws", "try", "catch", "synchronized", "assert", "->", "::", "System.currentTimeMillis", "Random",
        "hashCode", "toString", "static {", "volatile", "Thread", "Object", "double", "float",
    };
    private static final List<String> LIBRARY = List.of("Math.max", "Math.min", "Math.abs", "Math.floorDiv", "Math.floorMod",
        "Integer.bitCount", "Integer.compare", "Long.bitCount", "Long.compare", "System.arraycopy", "Arrays.fill", "Arrays.copyOf",
        "Arrays.copyOfRange");
    private static final Check check = new Check();

    public static void main(String[] args) throws Exception {
        face();
        classesInside();
        source();
        anyNumbers();
        refusalsChangeNothing();
        check.end();
    }

    private static void face() throws Exception {
        check.holds("the class is public and final",
            Modifier.isPublic(EchoFines.class.getModifiers()) && Modifier.isFinal(EchoFines.class.getModifiers()));
        List<String> found = new ArrayList<>();
        for (Method m : EchoFines.class.getDeclaredMethods()) {
            if (Modifier.isPrivate(m.getModifiers())) continue;
            StringBuilder told = new StringBuilder();
            for (Class<?> type : m.getParameterTypes()) told.append(told.length() == 0 ? "" : ",").append(type.getName());
            found.add(m.getName() + "(" + told + ")");
            check.holds(m + " is public and answers an int",
                m.getModifiers() == Modifier.PUBLIC && m.getReturnType() == int.class);
        }
        Collections.sort(found);
        check.holds("the methods are those of the document: " + found, found.equals(List.of(FACE)));
        int fields = 0;
        for (Field f : EchoFines.class.getDeclaredFields()) {
            if (Modifier.isPrivate(f.getModifiers())) continue;
            fields++;
            check.holds(f + " is a constant", f.getModifiers() == (Modifier.PUBLIC | Modifier.STATIC | Modifier.FINAL));
        }
        check.due("constants", fields, 5);
        check.due("NONE", EchoFines.NONE, -1);
        check.due("UNKNOWN", EchoFines.UNKNOWN, -2);
        check.due("OUTSIDE", EchoFines.OUTSIDE, -3);
        check.due("NOT", EchoFines.NOT, -4);
        check.due("FULL", EchoFines.FULL, -5);
        Constructor<?>[] constructors = EchoFines.class.getDeclaredConstructors();
        check.due("constructors", constructors.length, 1);
        check.holds("the constructor is public", constructors[0].getModifiers() == Modifier.PUBLIC);
    }

    /** Rules 1, 3, 5 and 11: what classes, fields and methods there may be, and how many. */
    private static void classesInside() {
        List<Class<?>> classes = new ArrayList<>(List.of(EchoFines.class));
        classes.addAll(List.of(EchoFines.class.getDeclaredClasses()));
        check.holds("at most twelve classes", classes.size() <= 12);
        for (Class<?> one : classes) {
            boolean isInside = one != EchoFines.class;
            check.holds(one + " is static", !isInside || Modifier.isStatic(one.getModifiers()));
            check.holds(one + " has no classes inside", !isInside || one.getDeclaredClasses().length == 0);
            fieldsOf(one);
            for (Constructor<?> c : one.getDeclaredConstructors()) check.holds(c + " takes seven at most", c.getParameterCount() <= 7);
            for (Method m : one.getDeclaredMethods()) {
                check.holds(m + " takes seven at most", m.getParameterCount() <= 7);
                boolean isFace = !isInside && Modifier.isPublic(m.getModifiers());
                for (String name : FACE) {
                    check.holds(m + " has a name of its own", isFace || !name.startsWith(m.getName() + "("));
                }
            }
        }
    }

    private static void fieldsOf(Class<?> one) {
        int own = 0;
        for (Field f : one.getDeclaredFields()) {
            String type = f.getType().getSimpleName();
            if (Modifier.isStatic(f.getModifiers())) {
                check.holds(f + " is final as it is static", Modifier.isFinal(f.getModifiers()));
                check.holds(f + " is a constant", type.matches("int|long|boolean|char|String|(int|long|char|byte)\\[\\]"));
            } else {
                own++;
                check.holds(f + " is a number, a row of numbers or an own object", f.getType().getEnclosingClass() == EchoFines.class
                    || type.matches("(int|long|boolean)(\\[\\])?"));
            }
        }
        check.holds(one + " has twenty fields at most", own <= 20);
    }

    private static void source() throws Exception {
        String file = System.getProperty("echofines.source", "src/main/java/EchoFines.java");
        String source = Files.readString(Path.of(file));
        String code = source.replaceAll("(?s)/\\*.*?\\*/", " ").replaceAll("//[^\n]*", " ");
        for (String word : BANNED) {
            String pattern = Character.isLetter(word.charAt(0)) ? "\\b" + Pattern.quote(word) + "\\b" : Pattern.quote(word);
            check.holds("no " + word, !Pattern.compile(pattern).matcher(code).find());
        }
        Matcher imports = Pattern.compile("import ([\\w.]+);").matcher(code);
        while (imports.find()) check.holds(imports.group(), imports.group(1).matches("java\\.util\\.(Arrays|ArrayList|List)"));
        check.holds("nothing Exact", !code.contains("Exact("));
        check.holds("no package", !code.contains("package "));
        check.holds("signs 1 to 127", source.chars().allMatch(c -> c >= 1 && c <= 127));
        Matcher library = Pattern.compile("\\b(Math|Integer|Long|Arrays|System|List|String|Character)\\.(\\w+)").matcher(code);
        while (library.find()) check.holds(library.group() + " may be used", LIBRARY.contains(library.group()));
        methodsAreShort(code);
        Matcher news = Pattern.compile("\n( +)(.*\\bnew \\w.*)").matcher(code);
        while (news.find()) check.holds("rows are made with the object: " + news.group(2), news.group(2).contains("final"));
    }

    /** A method of the class, or of one inside, ends with a bracket as far in as it begins. */
    private static void methodsAreShort(String code) {
        Matcher method = Pattern.compile("(?ms)^( {4}| {8})(?! |if |for |while |switch |private static final class )([^\n=;]*\\)) \\{\n(.*?)^\\1\\}")
            .matcher(code);
        int methods = 0;
        while (method.find()) {
            methods++;
            check.holds(method.group(2) + " has sixty lines at most", method.group(3).lines().count() <= 60);
        }
        check.holds("methods were found: " + methods, methods >= FACE.length);
    }

    // ---- calls with any numbers: none may throw, none that is refused may change anything

    private static final int[] ODD = {Integer.MIN_VALUE, Integer.MIN_VALUE + 1, -1000, -8, -5, -2, -1, 0, 1, 2, 3, 4, 5, 6,
        7, 8, 9, 10, 11, 12, 15, 16, 20, 23, 24, 35, 36, 40, 41, 59, 60, 61, 64, 99, 100, 101, 200, 255, 256, 1000, 9999,
        10000, 100000000, Integer.MAX_VALUE - 1, Integer.MAX_VALUE};

    private static int odd(Random random) {
        return ODD[random.nextInt(ODD.length)];
    }

    private static EchoFines someObject(int i) {
        String[] told = {"free", "plan 1 1;at a 0 0;at b 0 0;law 1 0 9", "plan 6 6;rock 0 0 0;rock 5 5 99;fade 0;at a 1 1",
            "plan 1 6;rock 0 0 0;rock 0 5 0;fade 0;at a 0 2;at f 0 4;law 1 0 99;night 1 0 9", "plan 1 1;rock 0 0 7",
            "plan 6 1;rock 0 0 1;rock 5 0 2;at a 1 0;at b 2 0;at c 3 0;at d 4 0;law 1 0 1;law 2 2 2"};
        return Check.told(told[i % told.length]);
    }

    private static void anyNumbers() {
        Random random = new Random(4242);
        for (int run = 0; run < 300; run++) {
            EchoFines x = someObject(run);
            for (int i = 0; i < 512; i++) anyCall(x, random, random.nextInt(26));
        }
        check.holds("calls with any numbers came to their end", true);
    }

    private static int anyCall(EchoFines x, Random r, int kind) {
        int a = odd(r), b = odd(r), c = odd(r), d = odd(r);
        boolean high = r.nextBoolean();
        switch (kind) {
            case 0: return x.write(r.nextLong(), a);
            case 1: return x.erase();
            case 2: return x.fault();
            case 3: return x.canyon();
            case 4: return x.cell(a, b);
            case 5: return x.person(a, b);
            case 6: return x.law(a, b);
            case 7: return x.cry(a, b, high, c);
            case 8: return x.costs(a, b, high, c);
            case 9: return x.sounds(a, b, high, c, d);
            case 10: return x.led(a, b, high, c, d);
            case 11: return x.whisper(a, b, high);
            case 12: return x.owed(a, b);
            case 13: return x.pay(a, b, c);
            case 14: return x.settled();
            case 15: return x.stand(a, b, high, c, d);
            case 16: return x.fall(a);
            case 17: return x.changed(a, b, c, high);
            case 18: return x.note(a, b);
            case 19: return x.forget();
            case 20: return x.who(a, b, high, c);
            case 21: return x.living(a);
            case 22: return x.cancel(a, b, high, c, d);
            case 23: return x.keep(a);
            case 24: return x.back(a);
            default: return x.count(a);
        }
    }

    private static String picture(EchoFines x) {
        StringBuilder all = new StringBuilder();
        for (int what = 0; what <= 10; what++) all.append(x.count(what)).append(' ');
        for (int cell = 0; cell < x.count(0) * x.count(1); cell++) {
            for (int what = 0; what < 3; what++) all.append(x.cell(cell, what)).append(' ');
        }
        for (int p = 0; p < 6; p++) {
            for (int what = 0; what < 3; what++) all.append(x.person(p, what)).append(' ');
            for (int q = 0; q < 6; q++) all.append(x.owed(p, q)).append(' ');
        }
        for (int law = 0; law < 6; law++) {
            for (int what = 0; what < 3; what++) all.append(x.law(law, what)).append(' ');
        }
        return all.append(x.living(0)).append(' ').append(x.living(1)).append(' ').append(x.fault()).toString();
    }

    private static void refusalsChangeNothing() {
        Random random = new Random(777);
        for (int run = 0; run < 60; run++) {
            EchoFines x = someObject(run);
            for (int i = 0; i < 300; i++) {
                String before = picture(x);
                int kind = random.nextInt(26);
                int answer = anyCall(x, random, kind);
                boolean asks = kind == 2 || kind >= 4 && kind <= 6 || kind >= 8 && kind <= 12 || kind >= 14 && kind <= 15
                    || kind == 17 || kind >= 20 && kind <= 22 || kind == 25;
                if (asks || answer <= EchoFines.UNKNOWN) {
                    check.holds("call of kind " + kind + " that answered " + answer + " left all as it was",
                        before.equals(picture(x)));
                }
            }
        }
    }
}
