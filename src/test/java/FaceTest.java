import java.lang.reflect.Member;
import java.lang.reflect.Method;
import java.lang.reflect.Modifier;
import java.util.ArrayList;
import java.util.Arrays;
import java.util.List;
import java.util.TreeSet;

/** The public face: just what the document lists, and no private method with a public one's name. */
public final class FaceTest {
    private static final String METHODS = "feed(int,int,int,int,int)int end(int)boolean fault(int)int text(int)int "
        + "farm(int,int)int wrong(int,int)int law(int)boolean apples(int)boolean forgive(int)int paint(int,int)int "
        + "inspect(int)int sin(int,int,int)int buy(int)int give(int)int day()int years(int,long)int undo()int "
        + "log(int,int)int step(int,int,int)int run(int,int)int perform(int)int least(int,int)int every(int)int "
        + "richest(int,int)int pairs(int)int seen(int,int,boolean)int weights(int,int)int ask(int)int ring()int "
        + "chain(int,int)int score(int,int)int game(int,int,int,int,int)int rests(int,int,int)int odds(int,int)int "
        + "shares(int,int)int fades(int)int all(int)int image()int back()int count(int)int";

    public static void main(String[] args) {
        TreeSet<String> faces = new TreeSet<>();
        TreeSet<String> names = new TreeSet<>();
        for (Method method : FenceYards.class.getDeclaredMethods()) {
            if (Modifier.isPublic(method.getModifiers())) {
                faces.add(signature(method));
                names.add(method.getName());
            }
        }
        TreeSet<String> promised = new TreeSet<>(Arrays.asList(METHODS.split(" ")));
        Check.due("the methods are the document's", faces.equals(promised), true);
        Check.due("final", Modifier.isFinal(FenceYards.class.getModifiers()), true);
        Check.due("constructors", FenceYards.class.getConstructors().length, 1);
        Check.due("NONE", FenceYards.NONE, -1);
        Check.due("HIDDEN", FenceYards.HIDDEN, -1000000);
        Check.due("public fields", FenceYards.class.getFields().length, 2);
        checkHidden(names);
        Check.finish();
    }

    private static String signature(Method method) {
        List<String> types = new ArrayList<>();
        for (Class<?> type : method.getParameterTypes()) {
            types.add(type.getName());
        }
        return method.getName() + "(" + String.join(",", types) + ")" + method.getReturnType().getName();
    }

    private static void checkHidden(TreeSet<String> names) {
        List<Member> members = new ArrayList<>();
        members.addAll(Arrays.asList(FenceYards.class.getDeclaredMethods()));
        members.addAll(Arrays.asList(FenceYards.class.getDeclaredFields()));
        for (Member member : members) {
            int modifiers = member.getModifiers();
            boolean known = Modifier.isPublic(modifiers) || Modifier.isPrivate(modifiers) || member.isSynthetic();
            Check.due(member.getName() + " is public or private", known, true);
        }
        for (Class<?> inside : FenceYards.class.getDeclaredClasses()) {
            Check.due(inside + " is static", Modifier.isStatic(inside.getModifiers()), true);
            for (Method method : inside.getDeclaredMethods()) {
                Check.due(method + " has a name of its own", names.contains(method.getName()), false);
            }
        }
    }
}
