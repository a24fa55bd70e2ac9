import java.io.IOException;
import java.lang.management.ManagementFactory;
import java.lang.reflect.Constructor;
import java.lang.reflect.Field;
import java.lang.reflect.Method;
import java.lang.reflect.Modifier;
import java.nio.file.Files;
import java.nio.file.Path;
import java.util.Arrays;
import java.util.List;
import java.util.Set;
import java.util.TreeSet;
import java.util.regex.Pattern;

/** What of LANGUAGE.md, and of the face in the document, can be seen from the class, its source and its memory. */
public final class RulesTest {
    private static final String[] FACE = {
        "int sign(int)", "boolean end(int)", "int disc()", "int word(int)", "int laxness()", "int forget(int)", "int at(int)",
        "int readings(int)", "int reading(int,int)", "int sure(int)", "int letters(int,int)", "int means(int,int)",
        "int tongues()", "int lax(int)", "int need(int)", "int second(int)", "int chance(int,int)", "int next(int)",
        "int blind(int,int)", "int over(int,int)", "int orders()", "int ahead(int,int)", "int ends(int)", "int way()",
        "int lot()", "int mend()", "int kinds()", "int many()", "int script(int,int)", "int like()", "int repeat()",
        "int rhyme(int,int)", "int axe(int,int,int,int)", "int claim()", "int says(int,int,int)",
        "int sheet(int,int,int,int,int)", "int find(int,int)", "int stand()", "int risks(int)", "int idle()", "int seek()",
        "int part()", "int plan()", "int seed(int)", "boolean keep(int)", "boolean again(int)", "int count(int)",
        "long row(int)"};

    public static void main(String[] args) throws IOException {
        face();
        classes();
        source(Files.readString(Path.of("src/main/java/ClayDisc.java")));
        room();
        Check.over("rules");
    }

    private static void face() {
        Set<String> open = new TreeSet<>();
        Set<String> names = new TreeSet<>();
        for (Method m : ClayDisc.class.getDeclaredMethods()) {
            if (!Modifier.isPrivate(m.getModifiers())) {
                String types = Arrays.toString(m.getParameterTypes()).replaceAll("[\\[\\] ]", "");
                open.add(m.getReturnType() + " " + m.getName() + "(" + types + ")");
                names.add(m.getName());
                Check.due(m.getName() + " is public and no more", m.getModifiers(), Modifier.PUBLIC);
            }
        }
        Check.due("the methods of the face: " + open, open.equals(new TreeSet<>(Arrays.asList(FACE))), true);
        for (Method m : ClayDisc.class.getDeclaredMethods()) {
            boolean hidden = Modifier.isPrivate(m.getModifiers());
            Check.due("a private method named " + m.getName(), hidden && names.contains(m.getName()), false);
        }
        for (Field f : ClayDisc.class.getDeclaredFields()) {
            boolean open1 = !Modifier.isPrivate(f.getModifiers());
            Check.due("field " + f.getName() + " is open", open1, f.getName().equals("NONE"));
            Check.due(f.getName() + ": static is final", Modifier.isStatic(f.getModifiers())
                && !Modifier.isFinal(f.getModifiers()), false);
        }
        Constructor<?>[] constructors = ClayDisc.class.getDeclaredConstructors();
        Check.due("one constructor", constructors.length, 1);
        Check.due("it is public", constructors[0].getModifiers(), Modifier.PUBLIC);
        Check.due("the class", ClayDisc.class.getModifiers(), Modifier.PUBLIC | Modifier.FINAL);
        for (Class<?> c : ClayDisc.class.getDeclaredClasses()) {
            for (Method m : c.getDeclaredMethods()) {
                Check.due(c.getName() + "." + m.getName() + " has a name of the face", names.contains(m.getName()), false);
            }
        }
    }

    private static void classes() {
        Class<?>[] inside = ClayDisc.class.getDeclaredClasses();
        Check.due("at most twelve classes", inside.length + 1 <= 12, true);
        for (Class<?> c : inside) {
            Check.due(c.getName() + " is static", Modifier.isStatic(c.getModifiers()), true);
            Check.due(c.getName() + " is not open", Modifier.isPublic(c.getModifiers()), false);
        }
        for (Class<?> c : withOuter(inside)) {
            int fields = 0;
            for (Field f : c.getDeclaredFields()) {
                fields += Modifier.isStatic(f.getModifiers()) ? 0 : 1;
            }
            Check.due(c.getName() + " has at most twenty fields: " + fields, fields <= 20, true);
            for (Method m : c.getDeclaredMethods()) {
                Check.due(m.getName() + " has at most seven parameters", m.getParameterCount() <= 7, true);
            }
        }
    }

    private static Class<?>[] withOuter(Class<?>[] inside) {
        Class<?>[] all = Arrays.copyOf(inside, inside.length + 1);
        all[inside.length] = ClayDisc.class;
        return all;
    }

    private static void source(String code) {
        String plain = code.replaceAll("(?s)/\\*.*?\\*/", "").replaceAll("//[^\n]*", "");
        String[] never = {"->", "::", "\\bfinally\\b", "\\bcatch\\b", "\\btry\\b", "\\bassert\\b", "\\bsynchronized\\b",
            "\\bSystem\\.(?!arraycopy)", "\\bpackage\\b", "Exact\\b", "\\bfloat\\b", "\\bdouble\\b", "\\bRandom\\b", "\\bThread\\b",
            "\\bObject\\b", "@Override", "\\bnull\\b", "\""};
        for (String word : never) {
            Check.due("the source has " + word, Pattern.compile(word).matcher(plain).find(), false);
        }
        Check.due("one import", plain.split("\\bimport\\b", -1).length - 1, 1);
        Check.due("which is", plain.contains("import java.util.NoSuchElementException;"), true);
        Check.due("two throws statements", plain.split("throw new NoSuchElementException\\(\\);", -1).length - 1, 2);
        Check.due("no other throw", plain.split("\\bthrow\\b", -1).length - 1, 2);
        methodLengths(List.of(code.split("\n")));
    }

    private static void methodLengths(List<String> lines) {
        Pattern head = Pattern.compile("^( {4}| {8})(?! )[^=;/*]*\\([^;]*\\)[^;=]*\\{$");
        for (int i = 0; i < lines.size(); i++) {
            if (!head.matcher(lines.get(i)).find()) {
                continue;
            }
            String close = lines.get(i).replaceAll("^( *).*", "$1") + "}";
            int j = i;
            while (!lines.get(j).equals(close)) {
                j++;
            }
            Check.due("at most sixty lines: " + lines.get(i), j - i + 1 <= 60, true);
        }
    }

    /** A run's calls share one room, so that calls should make nothing but what they throw. */
    private static void room() {
        ClayDisc warm = new ClayDisc();
        dearCalls(warm);
        com.sun.management.ThreadMXBean threads =
            (com.sun.management.ThreadMXBean) ManagementFactory.getThreadMXBean();
        long id = Thread.currentThread().getId();
        long before = threads.getThreadAllocatedBytes(id);
        ClayDisc x = new ClayDisc();
        long made = threads.getThreadAllocatedBytes(id);
        dearCalls(x);
        long spent = threads.getThreadAllocatedBytes(id) - made;
        Check.due("an object is small: " + (made - before), made - before < 400000, true);
        Check.due("calls make nothing: " + spent, spent < 2000, true);
    }

    private static void dearCalls(ClayDisc x) {
        for (char c = 'A'; c <= 'H'; c++) {
            x.sign(c << 24);
            x.end(1);
            x.word(0);
        }
        x.sign(0x612D622D);
        x.sign(0x632D642D);
        x.sign(0x65000000);
        x.end(9);
        x.disc();
        for (int i = 0; i < 3; i++) {
            x.readings(0);
            x.reading(0, 199);
            x.sure(0);
            x.next(0);
            x.means(0, 1);
            x.chance(0, 12);
            x.tongues();
            x.need(0);
            x.lax(0);
            x.over(i + 1, i);
            x.orders();
            x.ahead(0, 2);
            x.mend();
            x.many();
            x.repeat();
            x.claim();
            x.sheet(i, 2, 8, i, i);
            x.part();
            x.plan();
            x.keep(i);
            x.again(i);
        }
    }
}
