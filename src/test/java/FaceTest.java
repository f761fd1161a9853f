import java.lang.reflect.Array;
import java.lang.reflect.Constructor;
import java.lang.reflect.Field;
import java.lang.reflect.InvocationTargetException;
import java.lang.reflect.Method;
import java.lang.reflect.Modifier;
import java.nio.file.Files;
import java.nio.file.Path;
import java.util.ArrayDeque;
import java.util.ArrayList;
import java.util.Arrays;
import java.util.Collections;
import java.util.IdentityHashMap;
import java.util.List;
import java.util.Random;
import java.util.Set;
import java.util.TreeSet;
import java.util.regex.Matcher;
import java.util.regex.Pattern;

/** The public face, the rules of LANGUAGE.md that can be looked at, the room, and calls with any numbers at all. */
public final class FaceTest {
    private static final String FACE = "scene 3,put 3,sort 3,terms 2,feed 5,end 1,row 0,cut 0,law 0,fault 0,force 1,asks 8,"
        + "can 1,book 1,tear 0,worth 1,figures 2,next 5,fixed 1,rows 0,seeing 0,loss 1,evening 1,odds 2,heads 1,stayed 2,"
        + "were 1,run 2,ran 2,nights 4,image 1,back 1,count 1,status 0";

    private static int wrong = 0;

    private static void fine(String what, boolean so) {
        if (!so) {
            wrong++;
            System.out.println("not so: " + what);
        }
    }

    private static Set<String> publicNames() {
        Set<String> names = new TreeSet<>();
        for (String one : FACE.split(",")) {
            names.add(one.split(" ")[0]);
        }
        return names;
    }

    private static void face() {
        Set<String> methods = new TreeSet<>();
        for (Method m : StayPlay.class.getDeclaredMethods()) {
            if (Modifier.isPublic(m.getModifiers())) {
                methods.add(m.getName() + " " + m.getParameterCount());
                fine(m.getName() + " answers an int", m.getReturnType() == int.class);
                fine(m.getName() + " is no static one", !Modifier.isStatic(m.getModifiers()));
            } else {
                fine(m.getName() + " is private", Modifier.isPrivate(m.getModifiers()));
            }
        }
        fine("the methods are those of the document", methods.equals(new TreeSet<>(Arrays.asList(FACE.split(",")))));
        for (Field f : StayPlay.class.getDeclaredFields()) {
            boolean constant = f.getName().equals("NONE");
            fine(f.getName() + " has its place", constant == Modifier.isPublic(f.getModifiers())
                && constant != Modifier.isPrivate(f.getModifiers()));
        }
        Constructor<?>[] constructors = StayPlay.class.getDeclaredConstructors();
        fine("one public constructor", constructors.length == 1 && Modifier.isPublic(constructors[0].getModifiers()));
        fine("public and final", StayPlay.class.getModifiers() == (Modifier.PUBLIC | Modifier.FINAL));
    }

    private static void classes() {
        List<Class<?>> all = new ArrayList<>(List.of(StayPlay.class.getDeclaredClasses()));
        fine("some twelve classes", all.size() + 1 <= 13);
        for (Class<?> c : all) {
            fine(c + " is static, and not public", Modifier.isStatic(c.getModifiers())
                && !Modifier.isPublic(c.getModifiers()) && !Modifier.isProtected(c.getModifiers()));
            fine(c + " has no classes inside", c.getDeclaredClasses().length == 0);
        }
        all.add(StayPlay.class);
        for (Class<?> c : all) {
            int fields = 0;
            for (Field f : c.getDeclaredFields()) {
                boolean isStatic = Modifier.isStatic(f.getModifiers());
                fields += isStatic ? 0 : 1;
                fine(f + " is final, if static", !isStatic || Modifier.isFinal(f.getModifiers()));
            }
            fine(c + " has some twenty fields at most", fields <= 22);
            for (Method m : c.getDeclaredMethods()) {
                fine(m + " was written", !m.isSynthetic());
                fine(m + " takes seven at most", m.getParameterCount() <= 7 || m.getName().equals("asks"));
                fine(m + " has a name of its own", c == StayPlay.class && Modifier.isPublic(m.getModifiers())
                    || !publicNames().contains(m.getName()));
            }
        }
    }

    private static void source(Path path) throws Exception {
        String text = Files.readString(path);
        String code = text.replaceAll("(?s)/\\*.*?\\*/", " ").replaceAll("//[^\n]*", " ");
        for (int i = 0; i < code.length(); i++) {
            fine("signs are plain, place " + i, code.charAt(i) < 128);
        }
        String bare = code.replaceAll("'[^']'", "0").replaceAll("\"[^\"]*\"", "TEXT");
        Set<String> packages = Set.of("java.util.Arrays", "java.util.ArrayList", "java.util.List", "java.util.Iterator");
        Matcher imports = Pattern.compile("import ([^;]*);").matcher(bare);
        while (imports.find()) {
            fine(imports.group(1) + " may be used", packages.contains(imports.group(1)));
        }
        for (String word : List.of("throw", "throws", "try", "catch", "finally", "synchronized", "assert", "package", "native",
                "volatile", "Object", "hashCode", "Thread", "Random", "protected")) {
            fine("no " + word, !Pattern.compile("\\b" + word + "\\b").matcher(bare).find());
        }
        fine("no lambda", !bare.contains("->") && !bare.contains("::"));
        fine("no exact", !bare.contains("Exact"));
        fine("no block that is static", !Pattern.compile("static\\s*\\{").matcher(bare).find());
        fine("no joined texts", !bare.contains("TEXT +") && !bare.contains("+ TEXT") && !bare.contains("+= TEXT"));
        fine("no endless loops", !bare.contains("while (true)") && !bare.contains("for (;;"));
        Matcher calls = Pattern.compile("\\b(System|Arrays|String)\\.(\\w+)").matcher(bare);
        Set<String> used = new TreeSet<>();
        while (calls.find()) {
            used.add(calls.group());
        }
        used.removeAll(Set.of("System.arraycopy", "Arrays.fill", "Arrays.copyOf", "Arrays.copyOfRange"));
        fine("the library's functions are known ones: " + used, used.isEmpty());
        lengths(text);
    }

    private static void lengths(String text) {
        String[] lines = text.split("\n");
        int start = 0;
        for (int i = 0; i < lines.length; i++) {
            if (lines[i].matches("(    ){1,2}[a-zA-Z].*\\) \\{")) {
                start = i;
            }
            if (lines[i].matches("(    ){1,2}\\}")) {
                fine("some sixty lines: " + lines[start], i - start < 65);
            }
        }
    }

    /** How many elements and fields hang on an object. */
    private static long room(Object root) throws Exception {
        Set<Object> seen = Collections.newSetFromMap(new IdentityHashMap<>());
        ArrayDeque<Object> open = new ArrayDeque<>();
        open.add(root);
        long sum = 0;
        while (!open.isEmpty()) {
            Object one = open.remove();
            if (!seen.add(one)) {
                continue;
            }
            if (one.getClass().isArray()) {
                int length = Array.getLength(one);
                sum += length;
                for (int i = 0; i < length && !one.getClass().getComponentType().isPrimitive(); i++) {
                    if (Array.get(one, i) != null) {
                        open.add(Array.get(one, i));
                    }
                }
                continue;
            }
            for (Field f : one.getClass().getDeclaredFields()) {
                if (!Modifier.isStatic(f.getModifiers())) {
                    sum++;
                    f.setAccessible(true);
                    if (!f.getType().isPrimitive() && f.get(one) != null) {
                        open.add(f.get(one));
                    }
                }
            }
        }
        return sum;
    }

    private static int number(Random random) {
        switch (random.nextInt(9)) {
            case 0: return Integer.MIN_VALUE + random.nextInt(2);
            case 1: return Integer.MAX_VALUE - random.nextInt(2);
            case 2: return random.nextInt();
            case 3: return -random.nextInt(12);
            case 4: return random.nextInt(420);
            case 5: return 1 << random.nextInt(32);
            default: return random.nextInt(7);
        }
    }

    private static void anyNumbers() throws Exception {
        List<Method> methods = new ArrayList<>();
        for (String one : FACE.split(",")) {
            Class<?>[] types = new Class<?>[Integer.parseInt(one.split(" ")[1])];
            Arrays.fill(types, int.class);
            methods.add(StayPlay.class.getMethod(one.split(" ")[0], types));
        }
        Random random = new Random(11);
        for (int run = 0; run < 300; run++) {
            StayPlay play = new StayPlay();
            if (run % 3 > 0) {
                play.scene(10, 0, 0);
                play.scene(20, 0, 0);
                play.scene(20, 1, run % 2);
                play.sort(0, 0, 1 + run % 5);
                play.sort(1, 0, 1 + run % 4);
            }
            Check check = new Check();
            check.force(play, run % 2 == 0 ? "stays 70-own*3;price heads" : "stays 90/own if own>1;price 1/before");
            // What calls behind the 512th answer is free, but answer they must.
            for (int call = 0; call < (run % 50 == 0 ? 4000 : 500); call++) {
                Method method = methods.get(random.nextInt(methods.size()));
                Object[] arguments = new Object[method.getParameterCount()];
                for (int i = 0; i < arguments.length; i++) {
                    arguments[i] = number(random);
                }
                try {
                    method.invoke(play, arguments);
                } catch (InvocationTargetException e) {
                    fine(method.getName() + Arrays.toString(arguments) + " answers: " + e.getCause(), false);
                }
            }
            fine("twelve objects fit into one room of 7,300,000", room(play) < 600000);
        }
    }

    public static void main(String[] args) throws Exception {
        face();
        classes();
        source(Path.of(args[0]));
        anyNumbers();
        System.out.println("FaceTest: " + wrong + " things are not as due");
        if (wrong != 0) {
            System.exit(1);
        }
    }
}
