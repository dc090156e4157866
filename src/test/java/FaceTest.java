import java.lang.reflect.Field;
import java.lang.reflect.Member;
import java.lang.reflect.Method;
import java.lang.reflect.Modifier;
import java.util.ArrayList;
import java.util.List;
import java.util.Set;
import java.util.TreeSet;

/** The face is the document's, and no more; LANGUAGE.md's rules 1, 5 and 11 as far as reflection sees them. */
public final class FaceTest {
    private static final String FACE = """
        int sign(int)
        boolean end(int)
        int canal()
        int barges()
        int passengers()
        int rule()
        int barge(int,int)
        int passenger(int,int)
        int sheet(int,int,int,int)
        int hours(int)
        int changes(int,int)
        int wakes(int)
        int loads(int,int)
        int turnsRound(int)
        int journey()
        int undo()
        int later(int,int)
        int arrives(int)
        int stops(int)
        int nearest(int)
        int breath(int)
        int meets(int,int)
        int tires(int)
        int near(int,int)
        int helps(int)
        int hastens(int)
        int rouses(int)
        int evens()
        int seats(int)
        int pairs(int)
        int holds(int,int)
        int locks(int)
        int onion(int,int)
        int yawns(int,int)
        int heard(int,int)
        int forget()
        int fits()
        int asks()
        int blows(int)
        int dozes(int,int,int)
        int rests(int)
        int law()
        int years(int,int)
        boolean keep(int)
        boolean again(int)
        int count(int)
        long row(int)
        """;

    private static final List<String> FAULTS = new ArrayList<>();

    public static void main(String[] args) {
        Set<String> due = new TreeSet<>(List.of(FACE.strip().split("\n")));
        Set<String> got = new TreeSet<>();
        Set<String> names = new TreeSet<>();
        for (Method m : BargesByBreath.class.getDeclaredMethods()) {
            if (Modifier.isPublic(m.getModifiers())) {
                names.add(m.getName());
                StringBuilder head = new StringBuilder(m.getReturnType().getName()).append(' ').append(m.getName()).append('(');
                for (int i = 0; i < m.getParameterCount(); i++) {
                    head.append(i > 0 ? "," : "").append(m.getParameterTypes()[i].getName());
                }
                got.add(head.append(')').toString());
            }
        }
        if (!got.equals(due)) {
            FAULTS.add("the face is " + got);
        }
        for (Method m : BargesByBreath.class.getDeclaredMethods()) {
            check(m, names);
        }
        for (Field f : BargesByBreath.class.getDeclaredFields()) {
            if (!f.getName().equals("NONE")) {
                check(f, Set.of());
            }
        }
        classes(names);
        FAULTS.forEach(System.out::println);
        System.out.println(FAULTS.isEmpty() ? "the face is as due" : "the face is not as due");
        if (!FAULTS.isEmpty()) {
            System.exit(1);
        }
    }

    private static void check(Member m, Set<String> names) {
        boolean open = Modifier.isPublic(m.getModifiers()) && names.contains(m.getName());
        if (!open && !Modifier.isPrivate(m.getModifiers())) {
            FAULTS.add(m + " is neither private nor of the face");
        }
        if (Modifier.isPrivate(m.getModifiers()) && names.contains(m.getName())) {
            FAULTS.add(m + " bears the name of a public method");
        }
    }

    private static void classes(Set<String> names) {
        Class<?>[] inside = BargesByBreath.class.getDeclaredClasses();
        if (inside.length > 11 || !Modifier.isFinal(BargesByBreath.class.getModifiers())) {
            FAULTS.add("too many classes, or the class is not final");
        }
        for (Class<?> c : inside) {
            int objects = 0;
            if (!Modifier.isStatic(c.getModifiers())) {
                FAULTS.add(c + " is not static");
            }
            for (Method m : c.getDeclaredMethods()) {
                if (names.contains(m.getName()) || m.getParameterCount() > 7) {
                    FAULTS.add(m + " bears the name of a public method, or has too many parameters");
                }
            }
            for (Field f : c.getDeclaredFields()) {
                if (Modifier.isStatic(f.getModifiers()) && !Modifier.isFinal(f.getModifiers())) {
                    FAULTS.add(f + " is static and not final");
                }
                objects += Modifier.isStatic(f.getModifiers()) ? 0 : 1;
            }
            if (objects > 20) {
                FAULTS.add(c + " has " + objects + " fields");
            }
        }
    }
}
