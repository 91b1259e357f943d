import java.lang.annotation.ElementType;
import java.lang.annotation.Retention;
import java.lang.annotation.RetentionPolicy;
import java.lang.annotation.Target;

/** Stands at a test and tells the words of the document that it tests. */
@Retention(RetentionPolicy.RUNTIME)
@Target(ElementType.METHOD)
@interface Sentence {
    /** The section: a heading of the document up to its colon, or a title in capitals of its description. */
    String in();

    /** The words, as they stand in that section (line ends are spaces). */
    String[] says();
}
