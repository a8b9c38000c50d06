import java.nio.file.Files;
import java.nio.file.Path;
import java.util.ArrayList;
import java.util.List;
import java.util.regex.Matcher;
import java.util.regex.Pattern;

/** Makes the calls of README.md's example on its town: each answer is the one that the page tells. */
public final class ReadmeTest {
  private static final List<String> answers = new ArrayList<>();

  public static void main(String[] args) throws Exception {
    String page = Files.readString(Path.of("README.md"));
    PivotStreet street = new PivotStreet();
    answer("tell(street, text)", Tape.town(street, townOf(page)));
    asked(street);
    changed(street);
    seen(street);
    List<String> told = toldOf(page);
    Due.is("answers that the page tells", told.size(), answers.size());
    for (int i = 0; i < Math.min(told.size(), answers.size()); i++) Due.is("README.md", told.get(i), answers.get(i));
    Due.finish();
  }

  private static void asked(PivotStreet street) {
    answer("street.turn(0)", street.turn(0));
    answer("street.at(0, 1)", street.at(0, 1));
    answer("street.sun(0, 2)", street.sun(0, 2));
    answer("street.right(0)", street.right(0));
    answer("street.at(3, 1)", street.at(3, 1));
  }

  private static void changed(PivotStreet street) {
    answer("street.rest(0, 0)", street.rest(0, 0));
    answer("street.turn(0)", street.turn(0));
    answer("street.image(0)", street.image(0));
    answer("street.undo()", street.undo());
    answer("street.turn(0)", street.turn(0));
    answer("street.back(0)", street.back(0));
    answer("street.turn(0)", street.turn(0));
    answer("street.anew()", street.anew());
  }

  private static void seen(PivotStreet street) {
    answer("street.row(0, 1, 2)", street.row(0, 1, 2));
    answer("street.write(0, 1, 1)", street.write(0, 1, 1));
    answer("street.leans(0)", street.leans(0));
    answer("street.surely(0)", street.surely(0));
    answer("street.share(1, 0)", street.share(1, 0));
    answer("street.share(1, 1)", street.share(1, 1));
    answer("street.chance(0, 1, 0, 0)", street.chance(0, 1, 0, 0));
    answer("street.chance(0, 1, 0, 1)", street.chance(0, 1, 0, 1));
  }

  private static void answer(String call, long got) {
    answers.add(call + " // " + got);
  }

  /** The town's lines stand ahead of the page's code, set in. */
  private static String townOf(String page) {
    StringBuilder text = new StringBuilder();
    Matcher m = Pattern.compile("(?m)^    .*;$").matcher(page.substring(0, page.indexOf("```")));
    while (m.find()) text.append(m.group()).append("\n");
    return text.toString();
  }

  private static List<String> toldOf(String page) {
    List<String> told = new ArrayList<>();
    Matcher m = Pattern.compile("(?m)^((?:street\\.|tell).*); +// (-?\\d+)\\b.*$").matcher(page);
    while (m.find()) told.add(m.group(1) + " // " + m.group(2));
    return told;
  }
}
