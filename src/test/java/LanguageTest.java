import java.io.IOException;
import java.lang.management.ManagementFactory;
import java.lang.reflect.Constructor;
import java.lang.reflect.Field;
import java.lang.reflect.Method;
import java.lang.reflect.Modifier;
import java.nio.file.Files;
import java.nio.file.Path;
import java.util.Set;
import java.util.TreeSet;
import java.util.regex.Matcher;
import java.util.regex.Pattern;

/** The face of the class, the rules of LANGUAGE.md that can be seen from outside, and what the calls make. */
public final class LanguageTest {
    private static final String FACE = "about(int) append(int) bestFor(int) between(int) clearText() conversion(int,int) "
        + "copy(int,int) entry(int,int) errorPosition() form(int,int,boolean) idle() load() offer(int,int) paste(int,int) "
        + "path(int,int,int) place(int,int) ranked(int) reachable(int) remove(int) restore(int) room() runScript(int,long) "
        + "save(int) setBudget(int) setCost(int,int) simulate(long,int) sizeAfter(int,int,int) step(int,int,int) "
        + "togglePin(int) undo() victims(int) way(int,int,int) without(int,int,int) worth(int)";

    public static void main(String[] args) throws IOException {
        face();
        classesInside();
        source(Files.readString(Path.of("src/main/java/ClipboardHistory.java")));
        callsFitIntoTheRoom();
        Check.finish("LanguageTest");
    }

    private static void rule(int number, String what, boolean kept) {
        if (!kept) {
            Check.wrong("rule " + number + " is not kept: " + what);
        }
    }

    private static void face() {
        Class<?> c = ClipboardHistory.class;
        rule(1, "public and final", Modifier.isPublic(c.getModifiers()) && Modifier.isFinal(c.getModifiers()));
        Set<String> open = new TreeSet<>();
        Set<String> openNames = new TreeSet<>();
        Set<String> hiddenNames = new TreeSet<>();
        for (Method m : c.getDeclaredMethods()) {
            if (Modifier.isPrivate(m.getModifiers())) {
                hiddenNames.add(m.getName());
            } else {
                StringBuilder s = new StringBuilder();
                for (Class<?> p : m.getParameterTypes()) {
                    s.append(s.length() == 0 ? "" : ",").append(p.getSimpleName());
                }
                open.add(m.getName() + "(" + s + ")");
                openNames.add(m.getName());
                rule(1, m + " is public and answers an int",
                    Modifier.isPublic(m.getModifiers()) && !Modifier.isStatic(m.getModifiers()) && m.getReturnType() == int.class);
            }
        }
        Check.same("the face", String.join(" ", open), FACE);
        hiddenNames.retainAll(openNames);
        rule(1, "private methods with public names " + hiddenNames, hiddenNames.isEmpty());
        for (Field f : c.getDeclaredFields()) {
            rule(1, f + " is private", Modifier.isPrivate(f.getModifiers()) || f.getName().equals("NONE"));
        }
        Constructor<?>[] constructors = c.getDeclaredConstructors();
        rule(1, "one public constructor", constructors.length == 1 && Modifier.isPublic(constructors[0].getModifiers())
            && constructors[0].getParameterCount() == 0);
    }

    private static void classesInside() {
        Class<?>[] inside = ClipboardHistory.class.getDeclaredClasses();
        rule(11, "at most some twelve classes", inside.length < 12);
        for (Class<?> c : inside) {
            rule(1, c + " is static and not public", Modifier.isStatic(c.getModifiers()) && !Modifier.isPublic(c.getModifiers()));
            int fields = 0;
            for (Field f : c.getDeclaredFields()) {
                fields += Modifier.isStatic(f.getModifiers()) ? 0 : 1;
                rule(5, f + " is final if static", !Modifier.isStatic(f.getModifiers()) || Modifier.isFinal(f.getModifiers()));
            }
            rule(11, c + " has at most twenty fields", fields <= 20);
            for (Method m : c.getDeclaredMethods()) {
                rule(11, m + " takes at most seven", m.getParameterCount() <= 7);
                rule(1, m + " does not bear a name of the face", !(" " + FACE).contains(" " + m.getName() + "("));
            }
        }
    }

    private static void source(String text) {
        String code = text.replaceAll("(?s)/\\*.*?\\*/", "").replaceAll("//[^\n]*", "");
        String plain = code.replaceAll("\"[^\"\n]*\"", "\"\"");
        String[] words = {"package", "finally", "synchronized", "assert", "volatile", "native", "transient", "protected", "hashCode",
            "getMessage", "Thread", "Random", "System\\.(?!arraycopy\\b)\\w+", "\\w+Exact"};
        for (String word : words) {
            rule(6, "the word " + word, !Pattern.compile("\\b" + word + "\\b").matcher(plain).find());
        }
        rule(2, "no lambda and no method reference", !plain.contains("->") && !plain.contains("::"));
        rule(4, "plain signs alone", text.chars().allMatch(c -> c == '\n' || c >= ' ' && c < 127));
        all(6, plain, "\\bthrow\\b.*", "throw new (IllegalState|IllegalArgument|IndexOutOfBounds|Arithmetic|UnsupportedOperation"
            + "|NoSuchElement|Runtime)Exception\\((\"\")?\\);.*");
        all(6, plain, "\\bcatch *\\(.*", "catch *\\((IllegalState|IllegalArgument|UnsupportedOperation|NoSuchElement)Exception .*");
        all(4, plain, "\\bimport .*", "import java\\.util\\.(ArrayList|List|Arrays|Iterator|NoSuchElementException);.*");
        all(4, plain, "\\bArrays\\.\\w+", "Arrays\\.(copyOf|copyOfRange|fill)");
        shortMethods(plain);
    }

    /** Whatever looks like this must look like that. */
    private static void all(int number, String code, String found, String allowed) {
        Matcher m = Pattern.compile(found).matcher(code);
        while (m.find()) {
            rule(number, m.group(), m.group().matches(allowed));
        }
    }

    private static void shortMethods(String code) {
        int start = 0;
        int number = 0;
        boolean open = false;
        for (String line : code.split("\n")) {
            number++;
            if (line.matches(" {4}(    )?[\\w\\[\\] ]+\\([^;]*") && !line.contains(" class ")) {
                start = number;
                open = true;
            }
            if (open && line.matches(" {4}(    )?}")) {
                rule(11, "the method at code line " + start + " is short", number - start <= 60);
                open = false;
            }
        }
    }

    /** A run of 512 calls must fit into the room of 7.3 million fields and elements, taken as ints of four bytes. */
    private static void callsFitIntoTheRoom() {
        com.sun.management.ThreadMXBean bean = (com.sun.management.ThreadMXBean) ManagementFactory.getThreadMXBean();
        long least = Long.MAX_VALUE;
        for (int i = 0; i < 5; i++) {
            long before = bean.getCurrentThreadAllocatedBytes();
            calls(Check.loaded("K400900c0105151c1202052c2303101c0309101p02:00400p13:00400"));
            least = Math.min(least, bean.getCurrentThreadAllocatedBytes() - before);
        }
        rule(12, "some 460 calls made " + least + " bytes", least < 7300000L * 4);
    }

    private static void calls(Clip x) {
        for (int i = 0; i < 10; i++) {
            x.load();
            x.errorPosition();
            x.copy(0, 100);
            x.offer(2, 100);
            x.paste(0, 0);
            x.paste(0, 1);
            x.copy(1, 50);
            x.togglePin(1);
            x.save(0);
            x.victims(700);
            x.victims(899);
            x.room();
            x.ranked(1);
            x.setCost(2, 40);
            x.setBudget(800);
            x.undo();
            x.path(0, 3, 2);
            x.step(0, 3, 1);
            x.sizeAfter(0, 3, 9);
            x.reachable(0);
            x.without(0, 0, 3);
            x.worth(1);
            x.idle();
            x.between(1);
            x.way(0, 1, 3);
            x.bestFor(0);
            x.runScript(3, 100020300000400000L);
            x.simulate(i, 50);
            x.entry(0, 6);
            x.form(0, 0, true);
            x.about(5);
            x.conversion(0, 2);
            x.place(0, 0);
            x.remove(1);
            x.restore(0);
            for (int j = 0; j < 5; j++) {
                x.copy(0, 10);
            }
        }
    }
}
