import java.lang.annotation.Retention;
import java.lang.annotation.RetentionPolicy;

/** Names the sentences of ../shared/DOC.md that a test holds, and where they stand there. */
@Retention(RetentionPolicy.RUNTIME)
@interface Holds {
  /** "Promise 1" to "Promise 56", "Section 1" to "Section 6", or "What it is". */
  String at();

  /** The words of the document. */
  String[] says();
}
